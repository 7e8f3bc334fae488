/-! CALLS -/
theorem zAO_spec {ty : FieldType} {U : State} (h : va_AOA ty U) : ∃ comp c k, U.vm.findClass (FieldType.array ty).toString = some comp ∧ (U.vm.classes.findIdx? fun (x : Class) => match x.kind with | .array component _ => component == comp | _ => false) = some c ∧ U.vm.classes[c]? = some k ∧ k.kind = .array comp (.array ty) ∧ U.vm.findClass ("[" ++ (FieldType.array ty).toString) = some c := by
  unfold va_AOA at h
  simp only [Cond.before, Cond.holds, Cond.value, beq_iff_eq] at h
  cases hc : U.vm.findClass (FieldType.array ty).toString with
  | none => simp [hc] at h
  | some comp =>
    simp only [hc, Option.bind_some, Option.bind_eq_some_iff, Option.map_eq_some_iff] at h
    obtain ⟨c, hi, k, hk, hb⟩ := h
    obtain ⟨hlt, hp, -⟩ := Array.findIdx?_eq_some_iff_getElem.mp hi
    have hkk : U.vm.classes[c] = k := (Array.getElem?_eq_some_iff.mp hk).2
    rw [hkk] at hp
    cases hkind : k.kind with
    | array component t9 =>
      rw [hkind] at hb hp
      simp at hb hp
      exact ⟨comp, c, k, rfl, hi, hk, by rw [hkind, hp, hb.1], hb.2⟩
    | _ => rw [hkind] at hb; simp at hb
theorem va_AOA.moved {ty : FieldType} {u U : State} (hvm : u.vm.Alike U.vm) (h : va_AOA ty u) : va_AOA ty U := by
  obtain ⟨comp, c, k, h1, h2, h3, h4, h5⟩ := zAO_spec h
  obtain ⟨k', hk', he⟩ := hvm.2.2 _ _ h3
  have hi : (U.vm.classes.findIdx? fun (x : Class) => match x.kind with | .array component _ => component == comp | _ => false) = some c := by
    rw [hvm.findIdx?_eqK _ (fun _ => rfl)]
    exact h2
  have hkind : k'.kind = .array comp (.array ty) := by rw [he]; exact h4
  have f1 : U.vm.findClass (FieldType.array ty).toString = some comp := by rw [hvm.findClass]; exact h1
  have f2 : U.vm.findClass ("[" ++ (FieldType.array ty).toString) = some c := by rw [hvm.findClass]; exact h5
  unfold va_AOA
  simp only [Cond.before, Cond.holds, Cond.value, f1, Option.bind_some, beq_iff_eq]
  rw [Option.bind_eq_some_iff]
  refine ⟨c, hi, ?_⟩
  simp [hk', hkind, f2]
theorem zXt_move {B : Nat} {ext : Nat → Nat} {L : Nat} {xs : Nat → Int32} {s U : State} (hW : s.WarmedH U.vm) (hsz : s.heap.size ≤ U.heap.size) (hH : ∀ q, q < s.heap.size → ¬ B ≤ q → U.heap[q]? = s.heap[q]?) (h : zXt B ext L xs s) : zXt B ext L xs U := by
  obtain ⟨⟨a1, a2, a3, a4, a5, a6, a7, a8, a9⟩, b, c1, c2, ⟨scr, d1, d2, d3, d4, d5⟩, e, f, g, adV, i, z1, z2⟩ := h
  have hvm := hW.alike
  refine ⟨⟨a1.moved hvm, a2.moved hvm, a3.moved hvm, a4.moved hvm, a5.warmM hW, a6.warmM hW, a7.warmM hW, a8.warmM hW, fun a b ha hb hs hn => (a9 a b ha hb hs hn).warmC hW⟩, fun ci k q1 q2 q3 => (b ci k q1 q2 q3).moved hvm, c1.warm hW, c2.warm hW, ⟨scr, ?_, State.isArrayOf_alike hvm d2, d3, d4, d5⟩, e, f, Nat.le_trans g hsz, adV, ?_, (va_Z.moved hvm z1).kept hH, (va_Zq.moved hvm z2).kept hH⟩
  · rw [hH _ (Nat.lt_of_lt_of_le e g) (by omega)]; exact d1
  · exact (vk_S.moved hvm i).kept hH
theorem zXt_call {B : Nat} {ext : Nat → Nat} {L : Nat} {xs : Nat → Int32} {U : State} {g : JFrame} {mk : MethodId} {a : Array Value} (h : zXt B ext L xs U) : zXt B ext L xs (U.calling g mk a) := by
  obtain ⟨⟨a1, a2, a3, a4, a5, a6, a7, a8, a9⟩, b, c1, c2, ⟨scr, d1, d2, d3, d4, d5⟩, e, f, g9, adV, i, z1, z2⟩ := h
  have hvm : U.vm.Alike (U.calling g mk a).vm := Vm.Alike.refl U.vm
  have hvq : (U.calling g mk a).vm = U.vm := rfl
  refine ⟨⟨a1.moved hvm, a2.moved hvm, a3.moved hvm, a4.moved hvm, va_Nw.same rfl hvq.symm a5, va_Nw.same rfl hvq.symm a6, va_Nw.same rfl hvq.symm a7, va_Nw.same rfl hvq.symm a8, fun a b ha hb hs hn => va_Nw.same rfl hvq.symm (a9 a b ha hb hs hn)⟩, fun ci k q1 q2 q3 => (b ci k q1 q2 q3).moved hvm, vk_R.same hvq c1, vk_R.same hvq c2, ⟨scr, d1, State.isArrayOf_alike hvm d2, d3, d4, d5⟩, e, f, g9, adV, vk_S.moved hvm i, va_Z.moved hvm z1, va_Zq.moved hvm z2⟩
theorem zPc_blind {B : Nat} {D : va_G} {cA : Nat → ClassId} {ext : Nat → Nat} {L : Nat} {xs : Nat → Int32} {av : List Value} {μ : zM} : FrameBlind (va_Pc av (zWd B D cA ext L xs μ)) := by
  intro a U g mk h
  obtain ⟨h1, h2, h3, h4⟩ := h
  exact ⟨h1, h2, va_K.moved (u := U) (U := U.calling g mk a) (Vm.Alike.refl U.vm) h3, zXt_call h4⟩
theorem zGood {l : List Cond} (h : ∀ w ∈ l, w ∈ zTb) : GoodIn zTb l := fun w hw => ⟨h w hw, good_of_word (List.mem_filter.mp (h w hw)).2⟩
theorem zMC_mem {q : Nat × Nat × Nat × Nat × Nat × List Nat} (hq : q ∈ zMC) : (∀ w ∈ zMw q.1 q.2.1 q.2.2.1 q.2.2.2.2.1, w ∈ zTb) ∧ zMchk q = true := by
  refine ⟨fun w hw => ?_, List.all_eq_true.mp zMC_ok q hq⟩
  have e := List.map_inj_left.mp zMC_w q hq
  have h1 : some w ∈ (zMw q.1 q.2.1 q.2.2.1 q.2.2.2.2.1).map some := List.mem_map.mpr ⟨w, hw, rfl⟩
  rw [← e] at h1
  obtain ⟨i, -, hi⟩ := List.mem_map.mp h1
  exact List.mem_filter.mpr ⟨List.mem_of_getElem? hi, List.all_eq_true.mp (List.all_eq_true.mp zMC_g q hq) w hw⟩
theorem zNa_fact {x : Nat} (h : x < 227) : zNchk x (zNa x) = true := by
  have key : ∀ a n : Nat, (List.range n).all (fun k => zNchk (a + k) (zNa (a + k))) = true → a ≤ x → x < a + n → zNchk x (zNa x) = true := by
    intro a n hh h1 h2
    have := List.all_eq_true.mp hh (x - a) (List.mem_range.mpr (by omega))
    rwa [show a + (x - a) = x by omega] at this
  rcases Nat.lt_or_ge x 20 with q | q
  · exact key 0 20 zNa_0 (by omega) (by omega)
  rcases Nat.lt_or_ge x 40 with q | q
  · exact key 20 20 zNa_20 (by omega) (by omega)
  rcases Nat.lt_or_ge x 60 with q | q
  · exact key 40 20 zNa_40 (by omega) (by omega)
  rcases Nat.lt_or_ge x 80 with q | q
  · exact key 60 20 zNa_60 (by omega) (by omega)
  rcases Nat.lt_or_ge x 100 with q | q
  · exact key 80 20 zNa_80 (by omega) (by omega)
  rcases Nat.lt_or_ge x 120 with q | q
  · exact key 100 20 zNa_100 (by omega) (by omega)
  rcases Nat.lt_or_ge x 140 with q | q
  · exact key 120 20 zNa_120 (by omega) (by omega)
  rcases Nat.lt_or_ge x 160 with q | q
  · exact key 140 20 zNa_140 (by omega) (by omega)
  rcases Nat.lt_or_ge x 180 with q | q
  · exact key 160 20 zNa_160 (by omega) (by omega)
  rcases Nat.lt_or_ge x 200 with q | q
  · exact key 180 20 zNa_180 (by omega) (by omega)
  rcases Nat.lt_or_ge x 220 with q | q
  · exact key 200 20 zNa_200 (by omega) (by omega)
  exact key 220 7 zNa_220 (by omega) (by omega)
theorem zNc_fact {x : Nat} (h : x < 227) : ((zy x).cls ≠ "java/lang/invoke/MethodHandle" ∧ (zy x).cls ≠ "java/lang/invoke/VarHandle" ∧ (parseMethodDescriptor (zy x).desc).map (fun d => d.parameters.length) = some (zNa x)) ∧ zml x ≤ 41 := by
  have := zNa_fact h
  unfold zNchk at this
  simp only [Bool.and_eq_true, decide_eq_true_eq] at this
  exact ⟨⟨this.1.1.1, this.1.1.2, this.1.2⟩, this.2⟩
set_option maxRecDepth 100000 in
theorem zCls_all : (List.range 227).map (fun x => (zy x).cls) = (List.range 227).map (fun x => zRn (zow x)) := by rfl
theorem zCls {x : Nat} (h : x < 227) : (zy x).cls = zRn (zow x) := List.map_inj_left.mp zCls_all x (List.mem_range.mpr h)
theorem zRm {st : List Value} {B : Nat} {ext : Nat → Nat} (h : st.length ≤ 4) : ((st.map (zc B ext)).map fun v => v.category).sum ≤ 8 := by
  have : ∀ l : List Value, (l.map fun v => v.category).sum ≤ 2 * l.length := by
    intro l
    induction l with
    | nil => exact Nat.le_refl _
    | cons v l ih =>
      have : v.category = 1 ∨ v.category = 2 := lv_cat v
      simp only [List.map_cons, List.sum_cons, List.length_cons]
      omega
  have := this (st.map (zc B ext))
  rw [List.length_map] at this
  omega
section ZS
variable {p : Program} {l : Launch} {ev : Env} {R : Room} {s : State} {m : MethodId} {args : Array Value} {below : List Frame} {meth : Method} {c : Code} {Q : State → Prop}
variable {cc : ByteArray} {own nL : Nat} {ret : Option FieldType} {init : Bool} {cd : List zE} {B : Nat} {D : va_G} {cA : Nat → ClassId} {ext : Nat → Nat} {L : Nat} {xs : Nat → Int32} {d : Nat} {Rr : zOr}
variable {L0 S0 : Nat} {μF : zM} {H : Heap} {locs : List Loc} {cells slots : Nat}
theorem zCont {mc ms pc : Nat} {lsA : Array Slot} {st0 rest : List Value} {v : Option Value} {μ' : zM} {a : Array Value} (hr : va_Run p l ev R s m args below meth c H locs cells slots mc ms (F0 m pc lsA st0) (rest.map (zc B ext)) (zQ B D cA ext L xs v μ' a) (fun q => B ≤ q)) (hS : va_S (fun q => B ≤ q) s.heap H locs)
    (kk : ∀ (H1 : Heap) (locs1 : List Loc), zIv B D cA L xs μ' H1 → va_S (fun q => B ≤ q) s.heap H1 locs1 → W p l ev R s m args below meth c H1 locs1 (cells + mc) (slots + ms) Q (F0 m (pc + 3) lsA ((v.toList ++ rest).map (zc B ext)))) : W p l ev R s m args below meth c H locs cells slots Q (F0 m pc lsA st0) := by
  intro T hT X
  obtain ⟨v1, st₀, t, T', L', h0, X', hL, e1, e2, ⟨hv, hI, hz, hF⟩, st⟩ := hr T hT X
  have hv : v1 = v.map (zc B ext) := by injection hv
  subst hv
  rw [h0] at hz hF
  have hS1 : va_S (fun q => B ≤ q) s.heap T'.heap (locs ++ L') := by
    rw [e1]
    refine ⟨Nat.le_trans hS.1 hz, fun q h1 h2 => (hF q (Nat.lt_of_lt_of_le h1 hS.1) h2).trans (hS.2.1 q h1 h2), fun q hq => ?_⟩
    rcases List.mem_append.mp hq with h | h
    · exact hS.2.2 q h
    · exact hL q h
  obtain ⟨t2, a1, b1⟩ := kk T'.heap (locs ++ L') (by rw [e1]; exact hI) hS1 T' rfl X'
  refine ⟨t2, st t2 ?_, b1⟩
  have e : (v.map (zc B ext)).toList ++ rest.map (zc B ext) = (v.toList ++ rest).map (zc B ext) := by cases v <;> simp
  show Steps p.tables ev below (T'.setTop (F0 m (pc + 3) lsA ((v.map (zc B ext)).toList ++ rest.map (zc B ext)))) t2
  rw [e]
  exact a1
/-- what a callee may take as given -/
theorem zPreW {as : List Value} {μ : zM} (hI : zIv B D cA L xs μ H) (hK : va_K D vwCl (zTys cA) s) (hX : zXt B ext L xs s) (hS : va_S (fun q => B ≤ q) s.heap H locs) : ∀ U : State, U.heap = H → s.WarmedH U.vm → va_Pc (as.map (zc B ext)) (zWd B D cA ext L xs μ) (as.map (zc B ext)).toArray U :=
  fun U hU hW => ⟨rfl, by rw [hU]; exact hI, va_K.moved hW.alike hK, zXt_move hW (by rw [hU]; exact hS.1) (fun q h1 h2 => by rw [hU]; exact hS.2.1 q h1 h2) hX⟩
/-- the room that a callee takes fits -/
theorem zFit {μ μ' : zM} (h1 : zLe μ μ') (h2 : zLe μ' μF) (hc : L0 + cells = μ.1.length) (hs : S0 + slots = zSl μ) (hF : μF.1.length ≤ L0 + R.cells) (hFs : zSl μF ≤ S0 + R.slots) : cells + (μ'.1.length - μ.1.length) ≤ R.cells ∧ slots + (zSl μ' - zSl μ) ≤ R.slots ∧ L0 + (cells + (μ'.1.length - μ.1.length)) = μ'.1.length ∧ S0 + (slots + (zSl μ' - zSl μ)) = zSl μ' := by
  have a1 := h1.1
  have a2 := h1.2
  have a3 := h2.1
  have a4 := h2.2
  omega
theorem zRoomOk {mL : Nat} (h1 : d + 11 ≤ R.frames) (h2 : 64 * d + 1064 ≤ R.locals) (h3 : mL ≤ 41) : (d + 10) + 1 ≤ R.frames ∧ 8 + (mL + 11) + (64 * d + 1000) ≤ R.locals := by omega
theorem zStk {st : List Value} {y : Nat} : st.map (zc B ext) = (((st.take y).reverse).map (zc B ext)).reverse ++ (st.drop y).map (zc B ext) := by
  rw [← List.map_reverse, List.reverse_reverse, ← List.map_append, List.take_append_drop]

theorem zCopy {pc index a b n0 n1 : Nat} {lsA : Array Slot} {rest : List Value} {μ : zM} {f g : Nat → Int32} {sp dp n : Int32} {sH : String} (hx : p.tables.exec = Jvm.exec) (hb : c.code = cc) (hml : c.maxLocals = lsA.size) (hown : s.vm.findClass sH = some m.cls) (hlink : (Cond.methodLink sH index arraycopyName).before args s = true) (hnat : (Cond.native arraycopyName).before args s = true) (hstat : (Cond.static arraycopyName).before args s = true) (hini : (Cond.initialized "java/lang/System").before args s = true)
    (hK : va_K D vwCl (zTys cA) s) (hP : va_P D vwCl (zW B cA μ) H) (hS : va_S (fun q => B ≤ q) s.heap H locs) (ha0 : (zW B cA μ)[a]? = some (B + a, .inl (cA 0, n0, .inl f))) (ha1 : (zW B cA μ)[b]? = some (B + b, .inl (cA 0, n1, .inl g)))
    (h1 : ¬ sp < 0) (h2 : ¬ dp < 0) (h3 : ¬ n < 0) (h4 : sp.toNatClampNeg + n.toNatClampNeg ≤ n0) (h5 : dp.toNatClampNeg + n.toNatClampNeg ≤ n1)
    (hframes : 1 ≤ R.frames) (hlocals : (rest.map fun v => v.category).sum + (nativeFrameWords "java/lang/System" "arraycopy" 5 + 11) ≤ R.locals) (hdg : decode cc pc = .ok (.invokestatic index, 3))
    (kk : ∀ (H1 : Heap) (locs1 : List Loc), H1[B + b]? = some (vp_cell (cA 0) (n1, .inl (va_cpy f g sp.toNatClampNeg dp.toNatClampNeg n.toNatClampNeg))) → H1.size = H.size → (∀ q : Nat, q ≠ B + b → H1[q]? = H[q]?) → va_S (fun q => B ≤ q) s.heap H1 locs1 → W p l ev R s m args below meth c H1 locs1 cells slots Q (F0 m (pc + 3) lsA rest)) : W p l ev R s m args below meth c H locs cells slots Q (F0 m pc lsA (.int n :: .int dp :: .ref (B + b) :: .int sp :: .ref (B + a) :: rest)) := by
  have nn : ∀ z : Int32, ¬ z < 0 → z.toInt = (z.toNatClampNeg : Int) := by
    intro z hz
    have hz0 : (0 : Int) ≤ z.toInt := by
      have := Int32.not_lt.mp hz
      simpa using Int32.le_iff_toInt_le.mp this
    show z.toInt = ((z.toInt.toNat : Nat) : Int)
    omega
  intro T hT X
  have hc0 : H[B + a]? = some (vp_cell (cA 0) (n0, .inl f)) := hP a _ ha0
  have hc1 : H[B + b]? = some (vp_cell (cA 0) (n1, .inl g)) := hP b _ ha1
  obtain ⟨-, k0, hk0, cm0, hkk0⟩ := (hK.2 0 (cA 0, .int) rfl).1 n0 (fun j => .int (f j))
  obtain ⟨-, k1, hk1, cm1, hkk1⟩ := (hK.2 0 (cA 0, .int) rfl).1 n1 (fun j => .int (g j))
  obtain ⟨vm', X', step⟩ := X.arraycopy hx hown hlink hnat hstat hini (src := B + a) (dst := B + b) (cs := vp_cell (cA 0) (n0, .inl f)) (cd := vp_cell (cA 0) (n1, .inl g)) (srcPos := sp) (destPos := dp) (n := n) (by rw [hT]; exact hc0) (by rw [hT]; exact hc1)
    (fun _ h => by cases h) (fun _ h => by cases h) (fun h => by cases h) (fun h => by cases h) hk0 hk1 hkk0 hkk1 (by simp [refKind]) h1 h2 h3
    (by rw [nn sp h1, nn n h3]; show ¬ _ > ((arrV (cA 0) n0 (fun j => .int (f j))).slots.size : Int); rw [arrV_size]; omega)
    (by rw [nn dp h2, nn n h3]; show ¬ _ > ((arrV (cA 0) n1 (fun j => .int (g j))).slots.size : Int); rw [arrV_size]; omega)
    (fun vm₁ _ i hi => by
      have e : (vp_cell (cA 0) (n0, .inl f)).slots.getD (sp.toNatClampNeg + i) .null = .int (f (sp.toNatClampNeg + i)) := by
        show (arrV (cA 0) n0 (fun j => .int (f j))).slots.getD _ _ = _
        rw [Array.getD_eq_getD_getElem?, arrV_read _ _ (by omega)]
        rfl
      refine ⟨?_, ?_⟩
      · rw [e]
        rfl
      · rw [e]
        exact trivial)
    (g := F0 m pc lsA (.int n :: .int dp :: .ref (B + b) :: .int sp :: .ref (B + a) :: rest)) rfl (by rw [hml]) (rest := rest) rfl (by rw [hb]; exact hdg) hframes (by show 2 * 0 + _ + _ ≤ _; omega)
  have e1 : copied (vp_cell (cA 0) (n0, .inl f)) (vp_cell (cA 0) (n1, .inl g)) sp dp n = vp_cell (cA 0) (n1, .inl (va_cpy f g sp.toNatClampNeg dp.toNatClampNeg n.toNatClampNeg)) := va_copied (fun z => .int z) (cA 0) (cA 0) f g h4
  rw [e1] at X' step
  have hl : B + b < H.size := (Array.getElem?_eq_some_iff.mp hc1).1
  generalize hG : vp_cell (cA 0) (n1, .inl (va_cpy f g sp.toNatClampNeg dp.toNatClampNeg n.toNatClampNeg)) = G at X' step kk
  have hheap : ((T.setVm vm').setCell (B + b) G).heap = H.setIfInBounds (B + b) G := by rw [← hT]; rfl
  have oq : ∀ q : Nat, q ≠ B + b → (H.setIfInBounds (B + b) G)[q]? = H[q]? := fun q hq => by simp [Array.getElem?_setIfInBounds, Ne.symm hq]
  obtain ⟨t, a1, b1⟩ := kk _ _ (show (H.setIfInBounds (B + b) G)[B + b]? = some G by simp [Array.getElem?_setIfInBounds, hl]) (by simp) oq ⟨by simp; exact hS.1, fun q g1 g2 => by
      rw [oq q (fun e => g2 (by rw [e]; exact Nat.le_add_right _ _))]
      exact hS.2.1 q g1 g2, fun q hq => by
      rcases List.mem_append.mp hq with h | h
      · exact hS.2.2 q h
      · obtain ⟨z, -, hz⟩ := List.mem_map.mp h
        rw [← hz]
        exact Nat.le_add_right _ _⟩ _ hheap X'
  exact ⟨t, step t a1, b1⟩

set_option maxHeartbeats 1000000 in
theorem zs_invokestatic {n : Nat} {pc x y : Nat} {w : Int32} {t : List Nat} : zOne p l ev R s m args below meth c Q cc own nL ret init cd B D cA ext L xs d Rr μF L0 S0 (pc, .invokestatic n, x, y, w, t) := by
  intro C hR ip ls st μ H locs lsA cells slots K Z hd hn0 ho h hI hS hl hc hs hF hFs hle hk hz
  obtain ⟨hx, hb, hml, hown, hts, hK, hX, hch, hin, hfr, hlo⟩ := C
  have hn : zPc cd (ip + 1) = pc + 3 := hn0 rfl
  unfold zOpk at ho
  simp only [zStep] at h
  split at h
  · simp only at ho
    obtain ⟨⟨o, i, x', y', k, is⟩, hq, he⟩ := List.any_eq_true.mp ho
    simp only [Bool.and_eq_true, beq_iff_eq] at he
    obtain ⟨⟨⟨⟨rfl, rfl⟩, rfl⟩, rfl⟩, rfl⟩ := he
    obtain ⟨hws, hck⟩ := zMC_mem hq
    unfold zMchk at hck
    simp only [Bool.and_eq_true, decide_eq_true_eq] at hck
    obtain ⟨⟨hna, h227⟩, -⟩ := hck
    cases hbl : (Nat.ble y' st.length && Nat.ble (st.drop y').length 4) with
    | false => rw [hbl] at h; exact h.elim
    | true =>
    rw [hbl] at h
    simp only [Bool.and_eq_true, Nat.ble_eq] at hbl
    obtain ⟨v, μ', h1, h2⟩ := h
    obtain ⟨hle1, hM⟩ := hR _ _ _ _ _ h1 h227
    obtain ⟨f1, f2, f3, f4⟩ := zFit hle1 (hle _ _ _ _ h2) hc hs hF hFs
    obtain ⟨hd2, hml2⟩ := zNc_fact h227
    rw [hna] at hd2
    have hg : GoodIn zTb (va_wsS (zRn o) i (zy x') (zcd x' :: zTb)) := zGood fun w hw => by
      rcases List.mem_append.mp hw with h | h
      · exact hws w h
      · rcases List.mem_cons.mp h with h | h
        · rw [h]; exact zcd_in h227
        · exact h
    have hRm : (d + 10) + 1 ≤ R.frames ∧ 8 + (zml x' + 11) + (64 * d + 1000) ≤ R.locals := zRoomOk hfr hlo hml2
    rw [zStk (y := y')]
    refine zCont (va_runS (As := (st.take y').reverse.map (zc B ext)) (rest := (st.drop y').map (zc B ext)) ⟨hx, hb, hml, hown, hts⟩ hM (va_cwS y' hts hg rfl rfl rfl hd2 hRm) ⟨zPc_blind, zPreW hI hK hX hS⟩ rfl (by rw [List.length_map, List.length_reverse, List.length_take]; exact Nat.min_eq_left hbl.1) hl.1 rfl (lv_room (zRm hbl.2)) hd ⟨f1, f2⟩) hS fun H1 locs1 hI1 hS1 => ?_
    have hw := hk _ _ _ _ _ _ _ _ _ h2 hI1 hS1 hl f3 f4
    rw [hn] at hw
    exact hw
  · simp only at ho
    obtain ⟨⟨o, i, k, is⟩, hq, he⟩ := List.any_eq_true.mp ho
    simp only [Bool.and_eq_true, beq_iff_eq] at he
    obtain ⟨⟨rfl, rfl⟩, rfl⟩ := he
    have hws := zHasL_in (List.all_eq_true.mp zPC_ok _ hq)
    split at h
    · rename_i b a st
      cases hbl : Nat.ble st.length 4 with
      | false => rw [hbl] at h; exact h.elim
      | true =>
      rw [hbl] at h
      rw [Nat.ble_eq] at hbl
      refine va_mmin hx hb (hml.trans hl.1.symm) hown (hts _ (hws _ (by simp [zPw]))) (hts _ (hws (.static Lib.Math.min.name) (by simp [zPw]))) (hts _ (hws (.initialized "java/lang/Math") (by simp [zPw]))) (hts _ (hws (.code Lib.Math.min.name Lib.Math.min.code 2 (some .int)) (by simp [zPw]))) (by omega) (by have := zRm (B := B) (ext := ext) hbl; omega) (by have := (hle _ _ _ _ h).1; omega) (by have := (hle _ _ _ _ h).2; omega) hd ?_
      have hw := hk _ _ _ _ _ _ _ _ _ h hI hS hl hc hs
      rw [hn] at hw
      exact hw
    · exact h.elim
  · simp only at ho
    obtain ⟨⟨o, i, k, is⟩, hq, he⟩ := List.any_eq_true.mp ho
    simp only [Bool.and_eq_true, beq_iff_eq] at he
    obtain ⟨⟨rfl, rfl⟩, rfl⟩ := he
    have hws := zHasL_in (List.all_eq_true.mp zPC_ok _ hq)
    split at h
    · rename_i b a st
      cases hbl : Nat.ble st.length 4 with
      | false => rw [hbl] at h; exact h.elim
      | true =>
      rw [hbl] at h
      rw [Nat.ble_eq] at hbl
      refine va_mmax hx hb (hml.trans hl.1.symm) hown (hts _ (hws _ (by simp [zPw]))) (hts _ (hws (.static Lib.Math.max.name) (by simp [zPw]))) (hts _ (hws (.initialized "java/lang/Math") (by simp [zPw]))) (hts _ (hws (.code Lib.Math.max.name Lib.Math.max.code 2 (some .int)) (by simp [zPw]))) (by omega) (by have := zRm (B := B) (ext := ext) hbl; omega) (by have := (hle _ _ _ _ h).1; omega) (by have := (hle _ _ _ _ h).2; omega) hd ?_
      have hw := hk _ _ _ _ _ _ _ _ _ h hI hS hl hc hs
      rw [hn] at hw
      exact hw
    · exact h.elim
  · simp only at ho
    obtain ⟨⟨o, i, k, is⟩, hq, he⟩ := List.any_eq_true.mp ho
    simp only [Bool.and_eq_true, beq_iff_eq] at he
    obtain ⟨⟨rfl, rfl⟩, rfl⟩ := he
    have hws := zHasL_in (List.all_eq_true.mp zPC_ok _ hq)
    split at h
    · rename_i a st
      cases hbl : Nat.ble st.length 4 with
      | false => rw [hbl] at h; exact h.elim
      | true =>
      rw [hbl] at h
      rw [Nat.ble_eq] at hbl
      refine va_mabs hx hb (hml.trans hl.1.symm) hown (hts _ (hws _ (by simp [zPw]))) (hts _ (hws (.static Lib.Math.abs.name) (by simp [zPw]))) (hts _ (hws (.initialized "java/lang/Math") (by simp [zPw]))) (hts _ (hws (.code Lib.Math.abs.name Lib.Math.abs.code 1 (some .int)) (by simp [zPw]))) (by omega) (by have := zRm (B := B) (ext := ext) hbl; omega) (by have := (hle _ _ _ _ h).1; omega) (by have := (hle _ _ _ _ h).2; omega) hd ?_
      have hw := hk _ _ _ _ _ _ _ _ _ h hI hS hl hc hs
      rw [hn] at hw
      exact hw
    · exact h.elim
  · simp only at ho
    obtain ⟨⟨o, i, k, is⟩, hq, he⟩ := List.any_eq_true.mp ho
    simp only [Bool.and_eq_true, beq_iff_eq] at he
    obtain ⟨⟨rfl, rfl⟩, rfl⟩ := he
    have hws := zHasL_in (List.all_eq_true.mp zPC_ok _ hq)
    split at h
    · rename_i nn dp b sp a st
      cases hs0 : μ.1[a]? with
      | none => rw [hs0] at h; exact h.elim
      | some s0 =>
      rw [hs0] at h
      simp only [Option.elim_some] at h
      cases hz0 : μ.1[b]? with
      | none => rw [hz0] at h; exact h.elim
      | some z0 =>
      rw [hz0] at h
      simp only [Option.elim_some] at h
      have ra := zFr hI hs0
      have rb := zFr hI hz0
      obtain ⟨t0, n0⟩ := s0
      obtain ⟨t1, n1⟩ := z0
      cases hbl : (t0 == 20 && t1 == 20 && Nat.ble st.length 4) with
      | false => rw [hbl] at h; exact h.elim
      | true =>
      rw [hbl] at h
      simp only [Bool.and_eq_true, beq_iff_eq, Nat.ble_eq] at hbl
      obtain ⟨⟨rfl, rfl⟩, hbl⟩ := hbl
      obtain ⟨g1, g2, g3, g4, g5, h⟩ := h
      simp only [List.map_cons]
      rw [zc_r ra, zc_r rb]
      have hnw : nativeFrameWords "java/lang/System" "arraycopy" 5 ≤ 100 := by decide
      have he0 := zW_get (B := B) (cA := cA) hs0
      have he1 := zW_get (B := B) (cA := cA) hz0
      rw [zEn_i] at he0 he1
      refine zCopy hx hb (hml.trans hl.1.symm) hown (hts _ (hws _ (by simp [zPw]))) (hts _ (hws (.native arraycopyName) (by simp [zPw]))) (hts _ (hws (.static arraycopyName) (by simp [zPw]))) (hts _ (hws (.initialized "java/lang/System") (by simp [zPw]))) hK hI.2.1 hS he0 he1 g1 g2 g3 g4 g5 (by omega) (by have := zRm (B := B) (ext := ext) hbl; omega) hd fun H1 locs1 e1 z1 oq hS1 => ?_
      have hw := hk _ _ _ _ _ _ _ _ _ h (zIv_arr hI hz0 (Or.inl rfl) e1 z1 oq) hS1 hl hc hs
      rw [hn] at hw
      exact hw
    · exact h.elim
  · exact h.elim

end ZS
