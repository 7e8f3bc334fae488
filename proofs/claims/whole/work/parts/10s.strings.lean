/-! length() AND charAt ON THE STRING CONSTANTS: the JDK's own methods; written by a program (mk10s.py) -/
def zJws : List Cond := [.code yJ0_length_8abf5 cJ0_length_8abf5 1 (some .int), .code yJ0_charAt_5068e cJ0_charAt_5068e 2 (some .char), .code yJ0_coder_7d493 cJ0_coder_7d493 1 (some .byte), .code yJ0_isLatin1_aae02 cJ0_isLatin1_aae02 1 (some .boolean), .code yJ0_checkIndex_df160 cJ0_checkIndex_df160 2 none, .code yJ1_charAt_3b067 cJ1_charAt_3b067 2 (some .char), .code yJ3_checkIndex_8e157 cJ3_checkIndex_8e157 3 (some .int), .fieldLink RJ0 38 "java/lang/String" "COMPACT_STRINGS" "Z", .fieldLink RJ0 15 "java/lang/String" "coder" "B", .fieldLink RJ0 9 "java/lang/String" "value" "[B", .fieldLink RJ0 1053 "jdk/internal/util/Preconditions" "SIOOBE_FORMATTER" "Ljava/util/function/BiFunction;", .methodLink RJ0 335 yJ0_coder_7d493, .methodLink RJ0 492 yJ0_isLatin1_aae02, .methodLink RJ0 495 yJ1_charAt_3b067, .methodLink RJ1 9 yJ0_checkIndex_df160, .methodLink RJ0 1059 yJ3_checkIndex_8e157, .methodLink RX11 84 yJ0_length_8abf5, .methodLink RX11 90 yJ0_charAt_5068e, .methodLink RX7 82 yJ0_length_8abf5, .methodLink RX7 88 yJ0_charAt_5068e, .instanceMethod yJ0_length_8abf5, .selects RJ0 yJ0_length_8abf5 yJ0_length_8abf5, .instanceMethod yJ0_charAt_5068e, .selects RJ0 yJ0_charAt_5068e yJ0_charAt_5068e, .instanceMethod yJ0_coder_7d493, .selects RJ0 yJ0_coder_7d493 yJ0_coder_7d493, .instanceMethod yJ0_isLatin1_aae02, .selects RJ0 yJ0_isLatin1_aae02 yJ0_isLatin1_aae02, .static yJ1_charAt_3b067, .static yJ0_checkIndex_df160, .static yJ3_checkIndex_8e157, .initialized RJ0, .initialized RJ1, .initialized RJ3]
theorem zJws_ok : zHasL [245, 255, 249, 259, 265, 262, 270, 250, 1465, 1464, 266, 246, 256, 260, 263, 268, 242, 252, 310, 311, 243, 244, 253, 254, 247, 248, 257, 258, 261, 264, 269, 81, 82, 83] zJws = true := by decide +kernel
theorem zJw_in {w : Cond} (h : w ∈ zJws) : w ∈ zTb := zHasL_in zJws_ok w h
def zJw (B : Nat) (ext adV : Nat → Nat) (U : State) (H : Heap) : Prop := vk_S 2 zLenS zBytS (fun i => ext (1000000 + i)) adV (fun q => B ≤ q) U H ∧ va_Z "java/lang/String" "COMPACT_STRINGS" "Z" (.int 1) (fun q => B ≤ q) U H ∧ va_Zq "jdk/internal/util/Preconditions" "SIOOBE_FORMATTER" "Ljava/util/function/BiFunction;" (fun q => B ≤ q) U H
theorem zJw.moved {B : Nat} {ext adV : Nat → Nat} {u U : State} {H : Heap} (hvm : u.vm.Alike U.vm) (h : zJw B ext adV u H) : zJw B ext adV U H := ⟨vk_S.moved hvm h.1, va_Z.moved hvm h.2.1, va_Zq.moved hvm h.2.2⟩
theorem zJw.kept {B : Nat} {ext adV : Nat → Nat} {U : State} {H H1 : Heap} (h : zJw B ext adV U H) (hq : ∀ a : Nat, a < H.size → ¬ B ≤ a → H1[a]? = H[a]?) : zJw B ext adV U H1 := ⟨h.1.kept hq, h.2.1.kept hq, h.2.2.kept hq⟩
theorem zJw_blind {B : Nat} {ext adV : Nat → Nat} {av : List Value} : FrameBlind (va_Pc av (fun U => zJw B ext adV U U.heap)) := by
  intro a U g mk h
  exact ⟨h.1, zJw.moved (u := U) (U := U.calling g mk a) (Vm.Alike.refl U.vm) h.2⟩
theorem zNo_blind {av : List Value} : FrameBlind (va_Pc av (fun _ => True)) := fun a U g mk h => h
def zQs (v : Option Value) : Array Value → State → Outcome → State → Prop := fun _ st o t => o = .returned v ∧ t.heap = st.heap
theorem zStrL : ∀ i, i < 2 → zLenS.getD i 0 = (zStr i).length ∧ (zStr i).length < 100 := by decide +kernel
theorem zStrC : ∀ i, i < 2 → ∀ k, k < (zStr i).length → (((zBytS.getD i []).getD k 0 &&& 255).toUInt32 % 65536).toInt32 = Int32.ofNat ((zStr i).getD k 0) ∧ (zStr i).getD k 0 < 256 := by decide +kernel
theorem zNarC : ∀ k, k < 256 → narrow .char (.int (Int32.ofNat k)) = .int (Int32.ofNat k) := by decide +kernel
theorem zShr0 : ∀ k, k < 100 → Int32.ofNat k >>> ((0 : Int32) &&& 31) = Int32.ofNat k := by decide +kernel
theorem zGoodS {own : String} {idx : Nat} {y : MethodName} {w0 : Cond} (h1 : Cond.methodLink own idx y ∈ zTb) (h2 : Cond.static y ∈ zTb) (h3 : Cond.initialized y.cls ∈ zTb) (h4 : w0 ∈ zTb) : GoodIn zTb (va_wsS own idx y (w0 :: zTb)) := zGood fun w hw => by
  rcases List.mem_append.mp hw with h | h
  · simp only [List.mem_cons, List.not_mem_nil, or_false] at h
    rcases h with rfl | rfl | rfl
    · exact h1
    · exact h2
    · exact h3
  · rcases List.mem_cons.mp h with rfl | h
    · exact h4
    · exact h
theorem zGoodV {own C : String} {idx : Nat} {y : MethodName} {w0 : Cond} (h1 : Cond.methodLink own idx y ∈ zTb) (h2 : Cond.instanceMethod y ∈ zTb) (h3 : Cond.selects C y y ∈ zTb) (h5 : Cond.initialized C ∈ zTb) (h4 : w0 ∈ zTb) : GoodIn zTb (wsV own idx C y (w0 :: zTb)) := zGood fun w hw => by
  rcases List.mem_append.mp hw with h | h
  · simp only [List.mem_cons, List.not_mem_nil, or_false] at h
    rcases h with rfl | rfl | rfl | rfl
    · exact h1
    · exact h2
    · exact h3
    · exact h5
  · rcases List.mem_cons.mp h with rfl | h
    · exact h4
    · exact h
section ZSS
variable {p : Program} {l : Launch} {ev : Env} {R : Room} {s : State} {m : MethodId} {args : Array Value} {below : List Frame} {meth : Method} {c : Code} {Q : State → Prop} {B : Nat} {H : Heap} {locs : List Loc} {cells slots : Nat}
theorem zContS {pc : Nat} {lsA : Array Slot} {st0 rest : List Value} {v : Option Value} {a : Array Value} (hr : va_Run p l ev R s m args below meth c H locs cells slots 0 0 (F0 m pc lsA st0) rest (zQs v a) (fun q => B ≤ q)) (hS : va_S (fun q => B ≤ q) s.heap H locs)
    (kk : ∀ locs1 : List Loc, va_S (fun q => B ≤ q) s.heap H locs1 → W p l ev R s m args below meth c H locs1 cells slots Q (F0 m (pc + 3) lsA (v.toList ++ rest))) : W p l ev R s m args below meth c H locs cells slots Q (F0 m pc lsA st0) := by
  intro T hT X
  obtain ⟨v1, st₀, t, T', L', h0, X', hL, e1, e2, ⟨hv, hh⟩, st⟩ := hr T hT X
  have hv : v1 = v := by injection hv
  subst hv
  have hT1 : T'.heap = H := by rw [e1, hh, h0]
  have hS1 : va_S (fun q => B ≤ q) s.heap H (locs ++ L') := by
    refine ⟨hS.1, hS.2.1, fun q hq => ?_⟩
    rcases List.mem_append.mp hq with h | h
    · exact hS.2.2 q h
    · exact hL q h
  obtain ⟨t2, a1, b1⟩ := kk (locs ++ L') hS1 T' hT1 X'
  exact ⟨t2, st t2 a1, b1⟩
end ZSS
theorem d_len_0 : decode cJ0_length_8abf5 0 = .ok (.aload_n 0, 1) := by decide +kernel
theorem d_len_1 : decode cJ0_length_8abf5 1 = .ok (.getfield 9, 3) := by decide +kernel
theorem d_len_4 : decode cJ0_length_8abf5 4 = .ok (.arraylength, 1) := by decide +kernel
theorem d_len_5 : decode cJ0_length_8abf5 5 = .ok (.aload_n 0, 1) := by decide +kernel
theorem d_len_6 : decode cJ0_length_8abf5 6 = .ok (.invokevirtual 335, 3) := by decide +kernel
theorem d_len_9 : decode cJ0_length_8abf5 9 = .ok (.ishr, 1) := by decide +kernel
theorem d_len_10 : decode cJ0_length_8abf5 10 = .ok (.ireturn, 1) := by decide +kernel
theorem d_ch_0 : decode cJ0_charAt_5068e 0 = .ok (.aload_n 0, 1) := by decide +kernel
theorem d_ch_1 : decode cJ0_charAt_5068e 1 = .ok (.invokevirtual 492, 3) := by decide +kernel
theorem d_ch_4 : decode cJ0_charAt_5068e 4 = .ok (.ifCond .eq 12, 3) := by decide +kernel
theorem d_ch_7 : decode cJ0_charAt_5068e 7 = .ok (.aload_n 0, 1) := by decide +kernel
theorem d_ch_8 : decode cJ0_charAt_5068e 8 = .ok (.getfield 9, 3) := by decide +kernel
theorem d_ch_11 : decode cJ0_charAt_5068e 11 = .ok (.iload_n 1, 1) := by decide +kernel
theorem d_ch_12 : decode cJ0_charAt_5068e 12 = .ok (.invokestatic 495, 3) := by decide +kernel
theorem d_ch_15 : decode cJ0_charAt_5068e 15 = .ok (.ireturn, 1) := by decide +kernel
theorem d_ch_16 : decode cJ0_charAt_5068e 16 = .ok (.aload_n 0, 1) := by decide +kernel
theorem d_ch_17 : decode cJ0_charAt_5068e 17 = .ok (.getfield 9, 3) := by decide +kernel
theorem d_ch_20 : decode cJ0_charAt_5068e 20 = .ok (.iload_n 1, 1) := by decide +kernel
theorem d_ch_21 : decode cJ0_charAt_5068e 21 = .ok (.invokestatic 498, 3) := by decide +kernel
theorem d_ch_24 : decode cJ0_charAt_5068e 24 = .ok (.ireturn, 1) := by decide +kernel
theorem d_cod_0 : decode cJ0_coder_7d493 0 = .ok (.getstatic 38, 3) := by decide +kernel
theorem d_cod_3 : decode cJ0_coder_7d493 3 = .ok (.ifCond .eq 10, 3) := by decide +kernel
theorem d_cod_6 : decode cJ0_coder_7d493 6 = .ok (.aload_n 0, 1) := by decide +kernel
theorem d_cod_7 : decode cJ0_coder_7d493 7 = .ok (.getfield 15, 3) := by decide +kernel
theorem d_cod_10 : decode cJ0_coder_7d493 10 = .ok (.goto 4, 3) := by decide +kernel
theorem d_cod_13 : decode cJ0_coder_7d493 13 = .ok (.iconst 1, 1) := by decide +kernel
theorem d_cod_14 : decode cJ0_coder_7d493 14 = .ok (.ireturn, 1) := by decide +kernel
theorem d_lat_0 : decode cJ0_isLatin1_aae02 0 = .ok (.getstatic 38, 3) := by decide +kernel
theorem d_lat_3 : decode cJ0_isLatin1_aae02 3 = .ok (.ifCond .eq 14, 3) := by decide +kernel
theorem d_lat_6 : decode cJ0_isLatin1_aae02 6 = .ok (.aload_n 0, 1) := by decide +kernel
theorem d_lat_7 : decode cJ0_isLatin1_aae02 7 = .ok (.getfield 15, 3) := by decide +kernel
theorem d_lat_10 : decode cJ0_isLatin1_aae02 10 = .ok (.ifCond .ne 7, 3) := by decide +kernel
theorem d_lat_13 : decode cJ0_isLatin1_aae02 13 = .ok (.iconst 1, 1) := by decide +kernel
theorem d_lat_14 : decode cJ0_isLatin1_aae02 14 = .ok (.goto 4, 3) := by decide +kernel
theorem d_lat_17 : decode cJ0_isLatin1_aae02 17 = .ok (.iconst 0, 1) := by decide +kernel
theorem d_lat_18 : decode cJ0_isLatin1_aae02 18 = .ok (.ireturn, 1) := by decide +kernel
theorem d_ck_0 : decode cJ0_checkIndex_df160 0 = .ok (.iload_n 0, 1) := by decide +kernel
theorem d_ck_1 : decode cJ0_checkIndex_df160 1 = .ok (.iload_n 1, 1) := by decide +kernel
theorem d_ck_2 : decode cJ0_checkIndex_df160 2 = .ok (.getstatic 1053, 3) := by decide +kernel
theorem d_ck_5 : decode cJ0_checkIndex_df160 5 = .ok (.invokestatic 1059, 3) := by decide +kernel
theorem d_ck_8 : decode cJ0_checkIndex_df160 8 = .ok (.pop, 1) := by decide +kernel
theorem d_ck_9 : decode cJ0_checkIndex_df160 9 = .ok (.return_, 1) := by decide +kernel
theorem d_l1_0 : decode cJ1_charAt_3b067 0 = .ok (.iload_n 1, 1) := by decide +kernel
theorem d_l1_1 : decode cJ1_charAt_3b067 1 = .ok (.aload_n 0, 1) := by decide +kernel
theorem d_l1_2 : decode cJ1_charAt_3b067 2 = .ok (.arraylength, 1) := by decide +kernel
theorem d_l1_3 : decode cJ1_charAt_3b067 3 = .ok (.invokestatic 9, 3) := by decide +kernel
theorem d_l1_6 : decode cJ1_charAt_3b067 6 = .ok (.aload_n 0, 1) := by decide +kernel
theorem d_l1_7 : decode cJ1_charAt_3b067 7 = .ok (.iload_n 1, 1) := by decide +kernel
theorem d_l1_8 : decode cJ1_charAt_3b067 8 = .ok (.baload, 1) := by decide +kernel
theorem d_l1_9 : decode cJ1_charAt_3b067 9 = .ok (.sipush 255, 3) := by decide +kernel
theorem d_l1_12 : decode cJ1_charAt_3b067 12 = .ok (.iand, 1) := by decide +kernel
theorem d_l1_13 : decode cJ1_charAt_3b067 13 = .ok (.i2c, 1) := by decide +kernel
theorem d_l1_14 : decode cJ1_charAt_3b067 14 = .ok (.ireturn, 1) := by decide +kernel
theorem d_pk_0 : decode cJ3_checkIndex_8e157 0 = .ok (.iload_n 0, 1) := by decide +kernel
theorem d_pk_1 : decode cJ3_checkIndex_8e157 1 = .ok (.ifCond .lt 8, 3) := by decide +kernel
theorem d_pk_4 : decode cJ3_checkIndex_8e157 4 = .ok (.iload_n 0, 1) := by decide +kernel
theorem d_pk_5 : decode cJ3_checkIndex_8e157 5 = .ok (.iload_n 1, 1) := by decide +kernel
theorem d_pk_6 : decode cJ3_checkIndex_8e157 6 = .ok (.if_icmp .lt 10, 3) := by decide +kernel
theorem d_pk_9 : decode cJ3_checkIndex_8e157 9 = .ok (.aload_n 2, 1) := by decide +kernel
theorem d_pk_10 : decode cJ3_checkIndex_8e157 10 = .ok (.iload_n 0, 1) := by decide +kernel
theorem d_pk_11 : decode cJ3_checkIndex_8e157 11 = .ok (.iload_n 1, 1) := by decide +kernel
theorem d_pk_12 : decode cJ3_checkIndex_8e157 12 = .ok (.invokestatic 95, 3) := by decide +kernel
theorem d_pk_15 : decode cJ3_checkIndex_8e157 15 = .ok (.athrow, 1) := by decide +kernel
theorem d_pk_16 : decode cJ3_checkIndex_8e157 16 = .ok (.iload_n 0, 1) := by decide +kernel
theorem d_pk_17 : decode cJ3_checkIndex_8e157 17 = .ok (.ireturn, 1) := by decide +kernel
set_option maxHeartbeats 1000000 in
theorem zsc_coder {l : Launch} {B : Nat} {ext adV : Nat → Nat} {i : Nat} (hi : i < 2) : Met l yJ0_coder_7d493 (.code yJ0_coder_7d493 cJ0_coder_7d493 1 (some .byte) :: zTb) { frames := 1, cells := 0, slots := 0, locals := 100 } (va_Pc [.ref (ext (1000000 + i))] (fun U => zJw B ext adV U U.heap)) (zQs (some (.int 0))) 0 0 (fun q => B ≤ q) := by
  refine Met.ofW (cc := cJ0_coder_7d493) (maxL := 1) (ret := some .byte) (by decide) rfl ?_
  intro p e s m args below meth c s₁ B0 hml hv
  obtain ⟨rfl, hE, hZ, hZq⟩ := hv
  have hts0 := atoms_spec (ws := .code yJ0_coder_7d493 cJ0_coder_7d493 1 (some .byte) :: zTb) B0.pre
  have hts : ∀ w ∈ zTb, w.before ([.ref (ext (1000000 + i))] : List Value).toArray s = true := fun w hw => hts0 w (List.mem_cons_of_mem _ hw)
  have hown : s.vm.findClass RJ0 = some m.cls := findClass_of_methodNamed B0.named
  have hx := B0.exec
  have hb := B0.bytes
  have hr := B0.returns
  have hlocks := B0.notSynchronized
  have hl := lv_entry [.ref (ext (1000000 + i))] (n := 1) (Nat.le_of_ble_eq_true rfl)
  rw [lg_entry_eq]
  generalize (lg_sl [.ref (ext (1000000 + i))] ++ List.replicate (1 - (lg_sl [.ref (ext (1000000 + i))]).length) Slot.unset).toArray = ls at hl ⊢
  have hl : lv_has ls 1 [(0, .ref (ext (1000000 + i)))] := hl
  refine va_gets (ref := "java/lang/String") hx hb hZ va_S.rf hown (hts _ (zJw_in (List.mem_of_getElem? (i := 7) rfl))) (fun _ h => h) (d_cod_0) ?_
  refine lv_if_eq (tgt := 13) hx hb (d_cod_3) (by decide) (fun h => absurd h (by decide)) (fun _ => ?_)
  refine lv_aload_n hx hb (d_cod_6) rfl (lv_at hl 0 rfl) ?_
  refine vk_getf (ref := "java/lang/String") hx hb (hE.1 i hi).2.1 va_S.rf hown (hts _ (zJw_in (List.mem_of_getElem? (i := 8) rfl))) (fun _ h => h) (d_cod_7) ?_
  refine lv_goto (tgt := 14) hx hb (d_cod_10) (by decide) ?_
  exact W.zret hx hb hr rfl (fun t ht _ => ⟨rfl, ht⟩) (fun _ h => by cases h) (d_cod_14) hlocks
set_option maxHeartbeats 1000000 in
theorem zsc_lat {l : Launch} {B : Nat} {ext adV : Nat → Nat} {i : Nat} (hi : i < 2) : Met l yJ0_isLatin1_aae02 (.code yJ0_isLatin1_aae02 cJ0_isLatin1_aae02 1 (some .boolean) :: zTb) { frames := 1, cells := 0, slots := 0, locals := 100 } (va_Pc [.ref (ext (1000000 + i))] (fun U => zJw B ext adV U U.heap)) (zQs (some (.int 1))) 0 0 (fun q => B ≤ q) := by
  refine Met.ofW (cc := cJ0_isLatin1_aae02) (maxL := 1) (ret := some .boolean) (by decide) rfl ?_
  intro p e s m args below meth c s₁ B0 hml hv
  obtain ⟨rfl, hE, hZ, hZq⟩ := hv
  have hts0 := atoms_spec (ws := .code yJ0_isLatin1_aae02 cJ0_isLatin1_aae02 1 (some .boolean) :: zTb) B0.pre
  have hts : ∀ w ∈ zTb, w.before ([.ref (ext (1000000 + i))] : List Value).toArray s = true := fun w hw => hts0 w (List.mem_cons_of_mem _ hw)
  have hown : s.vm.findClass RJ0 = some m.cls := findClass_of_methodNamed B0.named
  have hx := B0.exec
  have hb := B0.bytes
  have hr := B0.returns
  have hlocks := B0.notSynchronized
  have hl := lv_entry [.ref (ext (1000000 + i))] (n := 1) (Nat.le_of_ble_eq_true rfl)
  rw [lg_entry_eq]
  generalize (lg_sl [.ref (ext (1000000 + i))] ++ List.replicate (1 - (lg_sl [.ref (ext (1000000 + i))]).length) Slot.unset).toArray = ls at hl ⊢
  have hl : lv_has ls 1 [(0, .ref (ext (1000000 + i)))] := hl
  refine va_gets (ref := "java/lang/String") hx hb hZ va_S.rf hown (hts _ (zJw_in (List.mem_of_getElem? (i := 7) rfl))) (fun _ h => h) (d_lat_0) ?_
  refine lv_if_eq (tgt := 17) hx hb (d_lat_3) (by decide) (fun h => absurd h (by decide)) (fun _ => ?_)
  refine lv_aload_n hx hb (d_lat_6) rfl (lv_at hl 0 rfl) ?_
  refine vk_getf (ref := "java/lang/String") hx hb (hE.1 i hi).2.1 va_S.rf hown (hts _ (zJw_in (List.mem_of_getElem? (i := 8) rfl))) (fun _ h => h) (d_lat_7) ?_
  refine lv_if_ne (tgt := 17) hx hb (d_lat_10) (by decide) (fun h => absurd rfl h) (fun _ => ?_)
  refine lv_iconst (v := 1) hx hb (d_lat_13) rfl ?_
  refine lv_goto (tgt := 18) hx hb (d_lat_14) (by decide) ?_
  exact W.zret hx hb hr rfl (fun t ht _ => ⟨rfl, ht⟩) (fun _ h => by cases h) (d_lat_18) hlocks
theorem zInLt {k : Int32} {n : Nat} (h : vp_in k n) (hn : n < 100) : ¬ k < 0 ∧ k < Int32.ofNat n := by
  have h1 : ¬ k < 0 := fun q => h (Or.inl q)
  have h2 : k.toNatClampNeg < n := Nat.not_le.mp fun q => h (Or.inr q)
  refine ⟨h1, ?_⟩
  rw [Int32.lt_iff_toInt_lt, Int32.toInt_ofNat_of_lt (by omega)]
  have h3 : k.toNatClampNeg = k.toInt.toNat := rfl
  omega
set_option maxHeartbeats 1000000 in
theorem zsc_pkN {l : Launch} {B : Nat} {k : Int32} {n : Nat} (hin : vp_in k n) (hn : n < 100) : Met l yJ3_checkIndex_8e157 (.code yJ3_checkIndex_8e157 cJ3_checkIndex_8e157 3 (some .int) :: zTb) { frames := 1, cells := 0, slots := 0, locals := 100 } (va_Pc [.int k, .int (Int32.ofNat n), .null] (fun U => True)) (zQs (some (.int k))) 0 0 (fun q => B ≤ q) := by
  refine Met.ofW (cc := cJ3_checkIndex_8e157) (maxL := 3) (ret := some .int) (by decide) rfl ?_
  intro p e s m args below meth c s₁ B0 hml hv
  obtain ⟨rfl, -⟩ := hv
  have hts0 := atoms_spec (ws := .code yJ3_checkIndex_8e157 cJ3_checkIndex_8e157 3 (some .int) :: zTb) B0.pre
  have hts : ∀ w ∈ zTb, w.before ([.int k, .int (Int32.ofNat n), .null] : List Value).toArray s = true := fun w hw => hts0 w (List.mem_cons_of_mem _ hw)
  have hown : s.vm.findClass RJ3 = some m.cls := findClass_of_methodNamed B0.named
  have hx := B0.exec
  have hb := B0.bytes
  have hr := B0.returns
  have hlocks := B0.notSynchronized
  have hl := lv_entry [.int k, .int (Int32.ofNat n), .null] (n := 3) (Nat.le_of_ble_eq_true rfl)
  rw [lg_entry_eq]
  generalize (lg_sl [.int k, .int (Int32.ofNat n), .null] ++ List.replicate (3 - (lg_sl [.int k, .int (Int32.ofNat n), .null]).length) Slot.unset).toArray = ls at hl ⊢
  have hl : lv_has ls 3 [(0, .int k), (1, .int (Int32.ofNat n)), (2, .null)] := hl
  obtain ⟨h1, h2⟩ := zInLt hin hn
  refine lv_iload_n hx hb (d_pk_0) rfl (lv_at hl 0 rfl) ?_
  refine lv_if_lt (tgt := 9) hx hb (d_pk_1) (by decide) (fun h => absurd h h1) (fun _ => ?_)
  refine lv_iload_n hx hb (d_pk_4) rfl (lv_at hl 0 rfl) ?_
  refine lv_iload_n hx hb (d_pk_5) rfl (lv_at hl 1 rfl) ?_
  refine lv_icmp_lt (tgt := 16) hx hb (d_pk_6) (by decide) (fun _ => ?_) (fun h => absurd h2 h)
  refine lv_iload_n hx hb (d_pk_16) rfl (lv_at hl 0 rfl) ?_
  exact W.iret hx hb hr (fun t ht _ => ⟨rfl, ht⟩) (fun _ h => by cases h) (d_pk_17) hlocks
set_option maxHeartbeats 1000000 in
theorem zsc_pkR {l : Launch} {B : Nat} {k : Int32} {n t : Nat} (hin : vp_in k n) (hn : n < 100) : Met l yJ3_checkIndex_8e157 (.code yJ3_checkIndex_8e157 cJ3_checkIndex_8e157 3 (some .int) :: zTb) { frames := 1, cells := 0, slots := 0, locals := 100 } (va_Pc [.int k, .int (Int32.ofNat n), .ref t] (fun U => True)) (zQs (some (.int k))) 0 0 (fun q => B ≤ q) := by
  refine Met.ofW (cc := cJ3_checkIndex_8e157) (maxL := 3) (ret := some .int) (by decide) rfl ?_
  intro p e s m args below meth c s₁ B0 hml hv
  obtain ⟨rfl, -⟩ := hv
  have hts0 := atoms_spec (ws := .code yJ3_checkIndex_8e157 cJ3_checkIndex_8e157 3 (some .int) :: zTb) B0.pre
  have hts : ∀ w ∈ zTb, w.before ([.int k, .int (Int32.ofNat n), .ref t] : List Value).toArray s = true := fun w hw => hts0 w (List.mem_cons_of_mem _ hw)
  have hown : s.vm.findClass RJ3 = some m.cls := findClass_of_methodNamed B0.named
  have hx := B0.exec
  have hb := B0.bytes
  have hr := B0.returns
  have hlocks := B0.notSynchronized
  have hl := lv_entry [.int k, .int (Int32.ofNat n), .ref t] (n := 3) (Nat.le_of_ble_eq_true rfl)
  rw [lg_entry_eq]
  generalize (lg_sl [.int k, .int (Int32.ofNat n), .ref t] ++ List.replicate (3 - (lg_sl [.int k, .int (Int32.ofNat n), .ref t]).length) Slot.unset).toArray = ls at hl ⊢
  have hl : lv_has ls 3 [(0, .int k), (1, .int (Int32.ofNat n)), (2, .ref t)] := hl
  obtain ⟨h1, h2⟩ := zInLt hin hn
  refine lv_iload_n hx hb (d_pk_0) rfl (lv_at hl 0 rfl) ?_
  refine lv_if_lt (tgt := 9) hx hb (d_pk_1) (by decide) (fun h => absurd h h1) (fun _ => ?_)
  refine lv_iload_n hx hb (d_pk_4) rfl (lv_at hl 0 rfl) ?_
  refine lv_iload_n hx hb (d_pk_5) rfl (lv_at hl 1 rfl) ?_
  refine lv_icmp_lt (tgt := 16) hx hb (d_pk_6) (by decide) (fun _ => ?_) (fun h => absurd h2 h)
  refine lv_iload_n hx hb (d_pk_16) rfl (lv_at hl 0 rfl) ?_
  exact W.iret hx hb hr (fun t ht _ => ⟨rfl, ht⟩) (fun _ h => by cases h) (d_pk_17) hlocks
set_option maxHeartbeats 1000000 in
theorem zsc_ck {l : Launch} {B : Nat} {ext adV : Nat → Nat} {k : Int32} {n : Nat} (hin : vp_in k n) (hn : n < 100) : Met l yJ0_checkIndex_df160 (.code yJ0_checkIndex_df160 cJ0_checkIndex_df160 2 none :: zTb) { frames := 3, cells := 0, slots := 0, locals := 200 } (va_Pc [.int k, .int (Int32.ofNat n)] (fun U => zJw B ext adV U U.heap)) (zQs (none)) 0 0 (fun q => B ≤ q) := by
  refine Met.ofW (cc := cJ0_checkIndex_df160) (maxL := 2) (ret := none) (by decide) rfl ?_
  intro p e s m args below meth c s₁ B0 hml hv
  obtain ⟨rfl, hE, hZ, hZq⟩ := hv
  have hts0 := atoms_spec (ws := .code yJ0_checkIndex_df160 cJ0_checkIndex_df160 2 none :: zTb) B0.pre
  have hts : ∀ w ∈ zTb, w.before ([.int k, .int (Int32.ofNat n)] : List Value).toArray s = true := fun w hw => hts0 w (List.mem_cons_of_mem _ hw)
  have hown : s.vm.findClass RJ0 = some m.cls := findClass_of_methodNamed B0.named
  have hx := B0.exec
  have hb := B0.bytes
  have hr := B0.returns
  have hlocks := B0.notSynchronized
  have hl := lv_entry [.int k, .int (Int32.ofNat n)] (n := 2) (Nat.le_of_ble_eq_true rfl)
  rw [lg_entry_eq]
  generalize (lg_sl [.int k, .int (Int32.ofNat n)] ++ List.replicate (2 - (lg_sl [.int k, .int (Int32.ofNat n)]).length) Slot.unset).toArray = ls at hl ⊢
  have hl : lv_has ls 2 [(0, .int k), (1, .int (Int32.ofNat n))] := hl
  refine lv_iload_n hx hb (d_ck_0) rfl (lv_at hl 0 rfl) ?_
  refine lv_iload_n hx hb (d_ck_1) rfl (lv_at hl 1 rfl) ?_
  rcases hZq with hZq | ⟨t, hZq⟩
  · refine va_gets (ref := "jdk/internal/util/Preconditions") hx hb hZq va_S.rf hown (hts _ (zJw_in (List.mem_of_getElem? (i := 10) rfl))) (fun _ h => h) (d_ck_2) ?_
    refine zContS (va_runS (As := [.int k, .int (Int32.ofNat n), .null]) (rest := []) ⟨hx, hb, hml, hown, hts⟩ (zsc_pkN (B := B) hin hn) (va_cwS 3 hts (zGoodS (zJw_in (List.mem_of_getElem? (i := 15) rfl)) (zJw_in (List.mem_of_getElem? (i := 30) rfl)) (zJw_in (List.mem_of_getElem? (i := 33) rfl)) (zJw_in (List.mem_of_getElem? (i := 6) rfl))) rfl rfl rfl ⟨by decide, by decide, by decide +kernel⟩ ⟨Nat.le_of_ble_eq_true rfl, Nat.le_of_ble_eq_true rfl⟩) ⟨zNo_blind, (fun U hU hW => ⟨rfl, trivial⟩)⟩ rfl rfl hl.1 rfl (lv_room (Nat.le_of_ble_eq_true rfl)) (d_ck_5) ⟨Nat.le_of_ble_eq_true rfl, Nat.le_of_ble_eq_true rfl⟩) va_S.rf (fun locs1 hS1 => ?_)
    refine lv_pop (va := .int k) hx hb (d_ck_8) rfl ?_
    exact W.vret hx hb hr (fun t ht _ => ⟨rfl, ht⟩) hS1.2.2 (d_ck_9) hlocks
  · refine va_gets (ref := "jdk/internal/util/Preconditions") hx hb hZq va_S.rf hown (hts _ (zJw_in (List.mem_of_getElem? (i := 10) rfl))) (fun _ h => h) (d_ck_2) ?_
    refine zContS (va_runS (As := [.int k, .int (Int32.ofNat n), .ref t]) (rest := []) ⟨hx, hb, hml, hown, hts⟩ (zsc_pkR (B := B) hin hn) (va_cwS 3 hts (zGoodS (zJw_in (List.mem_of_getElem? (i := 15) rfl)) (zJw_in (List.mem_of_getElem? (i := 30) rfl)) (zJw_in (List.mem_of_getElem? (i := 33) rfl)) (zJw_in (List.mem_of_getElem? (i := 6) rfl))) rfl rfl rfl ⟨by decide, by decide, by decide +kernel⟩ ⟨Nat.le_of_ble_eq_true rfl, Nat.le_of_ble_eq_true rfl⟩) ⟨zNo_blind, (fun U hU hW => ⟨rfl, trivial⟩)⟩ rfl rfl hl.1 rfl (lv_room (Nat.le_of_ble_eq_true rfl)) (d_ck_5) ⟨Nat.le_of_ble_eq_true rfl, Nat.le_of_ble_eq_true rfl⟩) va_S.rf (fun locs1 hS1 => ?_)
    refine lv_pop (va := .int k) hx hb (d_ck_8) rfl ?_
    exact W.vret hx hb hr (fun t ht _ => ⟨rfl, ht⟩) hS1.2.2 (d_ck_9) hlocks
set_option maxHeartbeats 1000000 in
theorem zsc_l1 {l : Launch} {B : Nat} {ext adV : Nat → Nat} {i : Nat} {k : Int32} (hi : i < 2) (hin : vp_in k (zStr i).length) : Met l yJ1_charAt_3b067 (.code yJ1_charAt_3b067 cJ1_charAt_3b067 2 (some .char) :: zTb) { frames := 5, cells := 0, slots := 0, locals := 300 } (va_Pc [.ref (adV i), .int k] (fun U => zJw B ext adV U U.heap)) (zQs (some (.int (Int32.ofNat ((zStr i).getD k.toNatClampNeg 0))))) 0 0 (fun q => B ≤ q) := by
  refine Met.ofW (cc := cJ1_charAt_3b067) (maxL := 2) (ret := some .char) (by decide) rfl ?_
  intro p e s m args below meth c s₁ B0 hml hv
  obtain ⟨rfl, hSw⟩ := hv
  have hts0 := atoms_spec (ws := .code yJ1_charAt_3b067 cJ1_charAt_3b067 2 (some .char) :: zTb) B0.pre
  have hts : ∀ w ∈ zTb, w.before ([.ref (adV i), .int k] : List Value).toArray s = true := fun w hw => hts0 w (List.mem_cons_of_mem _ hw)
  have hown : s.vm.findClass RJ1 = some m.cls := findClass_of_methodNamed B0.named
  have hx := B0.exec
  have hb := B0.bytes
  have hr := B0.returns
  have hlocks := B0.notSynchronized
  have hl := lv_entry [.ref (adV i), .int k] (n := 2) (Nat.le_of_ble_eq_true rfl)
  rw [lg_entry_eq]
  generalize (lg_sl [.ref (adV i), .int k] ++ List.replicate (2 - (lg_sl [.ref (adV i), .int k]).length) Slot.unset).toArray = ls at hl ⊢
  have hl : lv_has ls 2 [(0, .ref (adV i)), (1, .int k)] := hl
  have hE := hSw.1
  obtain ⟨z1, z2⟩ := zStrL i hi
  have hT : va_T .byte (adV i) (zStr i).length (fun j => .int ((zBytS.getD i []).getD j 0)) (fun q => B ≤ q) s s.heap := by
    rw [← z1]
    exact (hE.1 i hi).2.2.2
  have hk : k.toNatClampNeg < (zStr i).length := Nat.not_le.mp fun q => hin (Or.inr q)
  obtain ⟨z3, z4⟩ := zStrC i hi _ hk
  have hS : va_S (fun q => B ≤ q) s.heap s.heap [] := va_S.rf
  refine lv_iload_n hx hb (d_l1_0) rfl (lv_at hl 1 rfl) ?_
  refine lv_aload_n hx hb (d_l1_1) rfl (lv_at hl 0 rfl) ?_
  refine va_tlen hx hb hT va_S.rf rfl (d_l1_2) ?_
  refine zContS (va_runS (As := [.int k, .int (Int32.ofNat (zStr i).length)]) (rest := []) ⟨hx, hb, hml, hown, hts⟩ (zsc_ck (B := B) (ext := ext) (adV := adV) hin z2) (va_cwS 2 hts (zGoodS (zJw_in (List.mem_of_getElem? (i := 14) rfl)) (zJw_in (List.mem_of_getElem? (i := 29) rfl)) (zJw_in (List.mem_of_getElem? (i := 31) rfl)) (zJw_in (List.mem_of_getElem? (i := 4) rfl))) rfl rfl rfl ⟨by decide, by decide, by decide +kernel⟩ ⟨Nat.le_of_ble_eq_true rfl, Nat.le_of_ble_eq_true rfl⟩) ⟨zJw_blind, (fun U hU hW => ⟨rfl, by show zJw B ext adV U U.heap; rw [hU]; exact (zJw.moved hW.alike hSw).kept hS.2.1⟩)⟩ rfl rfl hl.1 rfl (lv_room (Nat.le_of_ble_eq_true rfl)) (d_l1_3) ⟨Nat.le_of_ble_eq_true rfl, Nat.le_of_ble_eq_true rfl⟩) hS (fun locs1 hS1 => ?_)
  refine lv_aload_n hx hb (d_l1_6) rfl (lv_at hl 0 rfl) ?_
  refine lv_iload_n hx hb (d_l1_7) rfl (lv_at hl 1 rfl) ?_
  refine va_tb hx hb hT hS1 hin rfl (d_l1_8) ?_
  refine lv_sipush (v := 255) hx hb (d_l1_9) rfl ?_
  refine lv_iand hx hb (d_l1_12) ?_
  refine lv_i2c hx hb (d_l1_13) z3 ?_
  exact W.zret hx hb hr (zNarC _ z4) (fun t ht _ => ⟨rfl, ht⟩) hS1.2.2 (d_l1_14) hlocks
set_option maxHeartbeats 1000000 in
theorem zsc_len {l : Launch} {B : Nat} {ext adV : Nat → Nat} {i : Nat} (hi : i < 2) : Met l yJ0_length_8abf5 (.code yJ0_length_8abf5 cJ0_length_8abf5 1 (some .int) :: zTb) { frames := 3, cells := 0, slots := 0, locals := 200 } (va_Pc [.ref (ext (1000000 + i))] (fun U => zJw B ext adV U U.heap)) (zQs (some (.int (Int32.ofNat (zStr i).length)))) 0 0 (fun q => B ≤ q) := by
  refine Met.ofW (cc := cJ0_length_8abf5) (maxL := 1) (ret := some .int) (by decide) rfl ?_
  intro p e s m args below meth c s₁ B0 hml hv
  obtain ⟨rfl, hSw⟩ := hv
  have hts0 := atoms_spec (ws := .code yJ0_length_8abf5 cJ0_length_8abf5 1 (some .int) :: zTb) B0.pre
  have hts : ∀ w ∈ zTb, w.before ([.ref (ext (1000000 + i))] : List Value).toArray s = true := fun w hw => hts0 w (List.mem_cons_of_mem _ hw)
  have hown : s.vm.findClass RJ0 = some m.cls := findClass_of_methodNamed B0.named
  have hx := B0.exec
  have hb := B0.bytes
  have hr := B0.returns
  have hlocks := B0.notSynchronized
  have hl := lv_entry [.ref (ext (1000000 + i))] (n := 1) (Nat.le_of_ble_eq_true rfl)
  rw [lg_entry_eq]
  generalize (lg_sl [.ref (ext (1000000 + i))] ++ List.replicate (1 - (lg_sl [.ref (ext (1000000 + i))]).length) Slot.unset).toArray = ls at hl ⊢
  have hl : lv_has ls 1 [(0, .ref (ext (1000000 + i)))] := hl
  have hE := hSw.1
  obtain ⟨z1, z2⟩ := zStrL i hi
  have hT : va_T .byte (adV i) (zStr i).length (fun j => .int ((zBytS.getD i []).getD j 0)) (fun q => B ≤ q) s s.heap := by
    rw [← z1]
    exact (hE.1 i hi).2.2.2
  have hS : va_S (fun q => B ≤ q) s.heap s.heap [] := va_S.rf
  refine lv_aload_n hx hb (d_len_0) rfl (lv_at hl 0 rfl) ?_
  refine vk_getf (ref := "java/lang/String") hx hb (hE.1 i hi).2.2.1 va_S.rf hown (hts _ (zJw_in (List.mem_of_getElem? (i := 9) rfl))) (fun _ h => h) (d_len_1) ?_
  refine va_tlen hx hb hT va_S.rf rfl (d_len_4) ?_
  refine lv_aload_n hx hb (d_len_5) rfl (lv_at hl 0 rfl) ?_
  refine zContS (va_runV (C := RJ0) (As := []) (rest := [.int (Int32.ofNat (zStr i).length)]) ⟨hx, hb, hml, hown, hts⟩ (zsc_coder (B := B) (ext := ext) (adV := adV) hi) (cwV 0 hts (zGoodV (zJw_in (List.mem_of_getElem? (i := 11) rfl)) (zJw_in (List.mem_of_getElem? (i := 24) rfl)) (zJw_in (List.mem_of_getElem? (i := 25) rfl)) (zJw_in (List.mem_of_getElem? (i := 31) rfl)) (zJw_in (List.mem_of_getElem? (i := 2) rfl))) rfl rfl rfl ⟨rfl, ⟨by decide, by decide, by decide +kernel⟩⟩ ⟨Nat.le_of_ble_eq_true rfl, Nat.le_of_ble_eq_true rfl⟩) ⟨zJw_blind, (vk_recv (adK := fun i => ext (1000000 + i)) hE hi hS), (fun U hU hW => ⟨rfl, by show zJw B ext adV U U.heap; rw [hU]; exact (zJw.moved hW.alike hSw).kept hS.2.1⟩)⟩ rfl rfl hl.1 rfl (lv_room (Nat.le_of_ble_eq_true rfl)) (d_len_6) ⟨Nat.le_of_ble_eq_true rfl, Nat.le_of_ble_eq_true rfl⟩) hS (fun locs1 hS1 => ?_)
  refine lv_ishr hx hb (d_len_9) ?_
  rw [zShr0 _ z2]
  exact W.iret hx hb hr (fun t ht _ => ⟨rfl, ht⟩) hS1.2.2 (d_len_10) hlocks
set_option maxHeartbeats 1000000 in
theorem zsc_ch {l : Launch} {B : Nat} {ext adV : Nat → Nat} {i : Nat} {k : Int32} (hi : i < 2) (hin : vp_in k (zStr i).length) : Met l yJ0_charAt_5068e (.code yJ0_charAt_5068e cJ0_charAt_5068e 2 (some .char) :: zTb) { frames := 7, cells := 0, slots := 0, locals := 400 } (va_Pc [.ref (ext (1000000 + i)), .int k] (fun U => zJw B ext adV U U.heap)) (zQs (some (.int (Int32.ofNat ((zStr i).getD k.toNatClampNeg 0))))) 0 0 (fun q => B ≤ q) := by
  refine Met.ofW (cc := cJ0_charAt_5068e) (maxL := 2) (ret := some .char) (by decide) rfl ?_
  intro p e s m args below meth c s₁ B0 hml hv
  obtain ⟨rfl, hSw⟩ := hv
  have hts0 := atoms_spec (ws := .code yJ0_charAt_5068e cJ0_charAt_5068e 2 (some .char) :: zTb) B0.pre
  have hts : ∀ w ∈ zTb, w.before ([.ref (ext (1000000 + i)), .int k] : List Value).toArray s = true := fun w hw => hts0 w (List.mem_cons_of_mem _ hw)
  have hown : s.vm.findClass RJ0 = some m.cls := findClass_of_methodNamed B0.named
  have hx := B0.exec
  have hb := B0.bytes
  have hr := B0.returns
  have hlocks := B0.notSynchronized
  have hl := lv_entry [.ref (ext (1000000 + i)), .int k] (n := 2) (Nat.le_of_ble_eq_true rfl)
  rw [lg_entry_eq]
  generalize (lg_sl [.ref (ext (1000000 + i)), .int k] ++ List.replicate (2 - (lg_sl [.ref (ext (1000000 + i)), .int k]).length) Slot.unset).toArray = ls at hl ⊢
  have hl : lv_has ls 2 [(0, .ref (ext (1000000 + i))), (1, .int k)] := hl
  have hE := hSw.1
  have hk : k.toNatClampNeg < (zStr i).length := Nat.not_le.mp fun q => hin (Or.inr q)
  obtain ⟨z3, z4⟩ := zStrC i hi _ hk
  have hS : va_S (fun q => B ≤ q) s.heap s.heap [] := va_S.rf
  refine lv_aload_n hx hb (d_ch_0) rfl (lv_at hl 0 rfl) ?_
  refine zContS (va_runV (C := RJ0) (As := []) (rest := []) ⟨hx, hb, hml, hown, hts⟩ (zsc_lat (B := B) (ext := ext) (adV := adV) hi) (cwV 0 hts (zGoodV (zJw_in (List.mem_of_getElem? (i := 12) rfl)) (zJw_in (List.mem_of_getElem? (i := 26) rfl)) (zJw_in (List.mem_of_getElem? (i := 27) rfl)) (zJw_in (List.mem_of_getElem? (i := 31) rfl)) (zJw_in (List.mem_of_getElem? (i := 3) rfl))) rfl rfl rfl ⟨rfl, ⟨by decide, by decide, by decide +kernel⟩⟩ ⟨Nat.le_of_ble_eq_true rfl, Nat.le_of_ble_eq_true rfl⟩) ⟨zJw_blind, (vk_recv (adK := fun i => ext (1000000 + i)) hE hi hS), (fun U hU hW => ⟨rfl, by show zJw B ext adV U U.heap; rw [hU]; exact (zJw.moved hW.alike hSw).kept hS.2.1⟩)⟩ rfl rfl hl.1 rfl (lv_room (Nat.le_of_ble_eq_true rfl)) (d_ch_1) ⟨Nat.le_of_ble_eq_true rfl, Nat.le_of_ble_eq_true rfl⟩) hS (fun locs1 hS => ?_)
  refine lv_if_eq (tgt := 16) hx hb (d_ch_4) (by decide) (fun h => absurd h (by decide)) (fun _ => ?_)
  refine lv_aload_n hx hb (d_ch_7) rfl (lv_at hl 0 rfl) ?_
  refine vk_getf (ref := "java/lang/String") hx hb (hE.1 i hi).2.2.1 hS hown (hts _ (zJw_in (List.mem_of_getElem? (i := 9) rfl))) (fun _ h => h) (d_ch_8) ?_
  refine lv_iload_n hx hb (d_ch_11) rfl (lv_at hl 1 rfl) ?_
  refine zContS (va_runS (As := [.ref (adV i), .int k]) (rest := []) ⟨hx, hb, hml, hown, hts⟩ (zsc_l1 (B := B) (ext := ext) (adV := adV) hi hin) (va_cwS 2 hts (zGoodS (zJw_in (List.mem_of_getElem? (i := 13) rfl)) (zJw_in (List.mem_of_getElem? (i := 28) rfl)) (zJw_in (List.mem_of_getElem? (i := 32) rfl)) (zJw_in (List.mem_of_getElem? (i := 5) rfl))) rfl rfl rfl ⟨by decide, by decide, by decide +kernel⟩ ⟨Nat.le_of_ble_eq_true rfl, Nat.le_of_ble_eq_true rfl⟩) ⟨zJw_blind, (fun U hU hW => ⟨rfl, by show zJw B ext adV U U.heap; rw [hU]; exact (zJw.moved hW.alike hSw).kept hS.2.1⟩)⟩ rfl rfl hl.1 rfl (lv_room (Nat.le_of_ble_eq_true rfl)) (d_ch_12) ⟨Nat.le_of_ble_eq_true rfl, Nat.le_of_ble_eq_true rfl⟩) hS (fun locs1 hS1 => ?_)
  exact W.zret hx hb hr (zNarC _ z4) (fun t ht _ => ⟨rfl, ht⟩) hS1.2.2 (d_ch_15) hlocks
section ZS
variable {p : Program} {l : Launch} {ev : Env} {R : Room} {s : State} {m : MethodId} {args : Array Value} {below : List Frame} {meth : Method} {c : Code} {Q : State → Prop}
variable {cc : ByteArray} {own nL : Nat} {ret : Option FieldType} {init : Bool} {cd : List zE} {B : Nat} {D : va_G} {cA : Nat → ClassId} {ext : Nat → Nat} {L : Nat} {xs : Nat → Int32} {d : Nat} {Rr : zOr}
variable {L0 S0 : Nat} {μF : zM} {H : Heap} {locs : List Loc} {cells slots : Nat}
theorem zc_ext {i : Nat} : zc B ext (.ref (1000000 + i)) = .ref (ext (1000000 + i)) := by
  show Value.ref (if 1000000 + i < 1000000 then B + (1000000 + i) else ext (1000000 + i)) = _
  rw [if_neg (by omega)]
theorem zStrA {a : Nat} (h : a = 1000000 ∨ a = 1000001) : ∃ i, i < 2 ∧ a = 1000000 + i := by
  rcases h with h | h
  · exact ⟨0, by omega, h⟩
  · exact ⟨1, by omega, h⟩
set_option maxHeartbeats 1000000 in
theorem zs_string {n pc x y : Nat} {w : Int32} : zOne p l ev R s m args below meth c Q cc own nL ret init cd B D cA ext L xs d Rr μF L0 S0 (pc, .invokevirtual n, x, y, w, []) := by
  intro C hR ip ls st μ H locs lsA cells slots K Z hd hn0 ho h hI hS hl hc hs hF hFs hle hk hz
  obtain ⟨hx, hb, hml, hown, hts, hK, hX, hch, hin, hfr, hlo⟩ := C
  have hn : zPc cd (ip + 1) = pc + 3 := hn0 rfl
  replace ho : ((x == 0 && ((own == 11 && n == 84) || (own == 7 && n == 82))) || (x == 1 && ((own == 11 && n == 90) || (own == 7 && n == 88)))) = true := ho
  simp only [Bool.or_eq_true, Bool.and_eq_true, beq_iff_eq] at ho
  simp only [zStep] at h
  obtain ⟨-, -, -, -, -, -, -, -, adV, hE, hZ, hZq⟩ := hX
  have hSw : zJw B ext adV s s.heap := ⟨hE, hZ, hZq⟩
  split at h
  · rename_i a st
    split at h
    · rename_i hcond
      obtain ⟨h1, hst⟩ := hcond
      obtain ⟨i, hi, rfl⟩ := zStrA h1
      rw [show 1000000 + i - 1000000 = i by omega] at h
      have hlk : Cond.methodLink (zRn own) n yJ0_length_8abf5 ∈ zTb := by
        rcases ho with ⟨-, ⟨rfl, rfl⟩ | ⟨rfl, rfl⟩⟩ | ⟨h0, -⟩
        · exact (zJw_in (List.mem_of_getElem? (i := 16) rfl))
        · exact (zJw_in (List.mem_of_getElem? (i := 18) rfl))
        · cases h0
      have f1 : cells ≤ R.cells := by have := (hle _ _ _ _ h).1; omega
      have f2 : slots ≤ R.slots := by have := (hle _ _ _ _ h).2; omega
      rw [List.map_cons, zc_ext]
      refine zContS (va_runV (C := RJ0) (As := []) (rest := st.map (zc B ext)) ⟨hx, hb, hml, hown, hts⟩ (zsc_len (B := B) (ext := ext) (adV := adV) hi) (cwV 0 hts (zGoodV hlk (zJw_in (List.mem_of_getElem? (i := 20) rfl)) (zJw_in (List.mem_of_getElem? (i := 21) rfl)) (zJw_in (List.mem_of_getElem? (i := 31) rfl)) (zJw_in (List.mem_of_getElem? (i := 0) rfl))) rfl rfl rfl ⟨rfl, ⟨by decide, by decide, by decide +kernel⟩⟩ ⟨by show 3 + 1 ≤ R.frames; omega, by show 8 + (1 + 11) + 200 ≤ R.locals; omega⟩) ⟨zJw_blind, vk_recv (adK := fun i => ext (1000000 + i)) hE hi hS, fun U hU hW => ⟨rfl, by show zJw B ext adV U U.heap; rw [hU]; exact (zJw.moved hW.alike hSw).kept hS.2.1⟩⟩ rfl rfl hl.1 rfl (lv_room (zRm hst)) hd ⟨f1, f2⟩) hS fun locs1 hS1 => ?_
      have hw := hk _ _ _ _ _ _ _ _ _ h hI hS1 hl hc hs
      rw [hn] at hw
      exact hw
    · exact h.elim
  · rename_i k a st
    split at h
    · rename_i hcond
      obtain ⟨h1, hst⟩ := hcond
      obtain ⟨i, hi, rfl⟩ := zStrA h1
      rw [show 1000000 + i - 1000000 = i by omega] at h
      obtain ⟨hin2, h⟩ := h
      have hlk : Cond.methodLink (zRn own) n yJ0_charAt_5068e ∈ zTb := by
        rcases ho with ⟨h0, -⟩ | ⟨-, ⟨rfl, rfl⟩ | ⟨rfl, rfl⟩⟩
        · cases h0
        · exact (zJw_in (List.mem_of_getElem? (i := 17) rfl))
        · exact (zJw_in (List.mem_of_getElem? (i := 19) rfl))
      have f1 : cells ≤ R.cells := by have := (hle _ _ _ _ h).1; omega
      have f2 : slots ≤ R.slots := by have := (hle _ _ _ _ h).2; omega
      rw [List.map_cons, List.map_cons, zc_ext]
      refine zContS (va_runV (C := RJ0) (As := [.int k]) (rest := st.map (zc B ext)) ⟨hx, hb, hml, hown, hts⟩ (zsc_ch (B := B) (ext := ext) (adV := adV) hi hin2) (cwV 1 hts (zGoodV hlk (zJw_in (List.mem_of_getElem? (i := 22) rfl)) (zJw_in (List.mem_of_getElem? (i := 23) rfl)) (zJw_in (List.mem_of_getElem? (i := 31) rfl)) (zJw_in (List.mem_of_getElem? (i := 1) rfl))) rfl rfl rfl ⟨rfl, ⟨by decide, by decide, by decide +kernel⟩⟩ ⟨by show 7 + 1 ≤ R.frames; omega, by show 8 + (2 + 11) + 400 ≤ R.locals; omega⟩) ⟨zJw_blind, vk_recv (adK := fun i => ext (1000000 + i)) hE hi hS, fun U hU hW => ⟨rfl, by show zJw B ext adV U U.heap; rw [hU]; exact (zJw.moved hW.alike hSw).kept hS.2.1⟩⟩ rfl rfl hl.1 rfl (lv_room (zRm hst)) hd ⟨f1, f2⟩) hS fun locs1 hS1 => ?_
      have hw := hk _ _ _ _ _ _ _ _ _ h hI hS1 hl hc hs
      rw [hn] at hw
      exact hw
    · exact h.elim
  · exact h.elim
end ZS
