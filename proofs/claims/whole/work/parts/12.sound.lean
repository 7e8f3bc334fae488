/-! A STEP, A RUN, A METHOD -/
theorem zEl {α : Type} {o : Option α} {f : α → Prop} (h : o.elim False f) : ∃ a, o = some a ∧ f a := by
  cases o with
  | none => exact h.elim
  | some a => exact ⟨a, rfl, h⟩
theorem zEl2 {α : Type} {o : Option α} {P : Prop} {f : α → Prop} (h : o.elim P f) : P ∨ ∃ a, f a := by
  cases o with
  | none => exact Or.inl h
  | some a => exact Or.inr ⟨a, h⟩
theorem zBf {b : Bool} {P : Prop} (h : bif b then P else False) : P := by
  cases b with
  | true => exact h
  | false => exact h.elim
theorem zBr {c A B : Prop} (h : (c → A) ∧ (¬ c → B)) : A ∨ B := (Classical.em c).elim (fun q => Or.inl (h.1 q)) (fun q => Or.inr (h.2 q))
theorem zBrN {c A B : Prop} (h : (¬ c → A) ∧ (c → B)) : A ∨ B := (Classical.em c).elim (fun q => Or.inr (h.2 q)) (fun q => Or.inl (h.1 q))
theorem zSw_some {β : Type} {a : Int32} {K : β → Prop} {dd : β} : ∀ (t : List β) (w : Int32), zSw a K dd w t → ∃ b, K b
  | [], _, h => ⟨_, h⟩
  | b :: t, w, h => (zBr h).elim (fun q => ⟨b, q⟩) (fun q => zSw_some t _ q)
set_option maxHeartbeats 4000000 in
theorem zStep_le {Rr : zOr} {e : zE} {ip : Nat} {ls : zL} {st : List Value} {μ μF : zM} {K : Nat → zL → List Value → zM → Prop} {Z : Option Value → zM → Prop} (hR : ∀ x as μ v μ', Rr x as μ v μ' → zLe μ μ') (hK : ∀ ip ls st μ1, K ip ls st μ1 → zLe μ1 μF) (hZ : ∀ v, Z v μ → zLe μ μF) (h : zStep zDyn Rr e ip ls st μ K Z) : zLe μ μF := by
  obtain ⟨pc, ins, x, y, w, t⟩ := e
  have hC : ∀ (x : Nat) (as : List Value) (f : List Value → Nat × zL × List Value), zCall Rr x as μ (fun v μ => K (f v).1 (f v).2.1 (f v).2.2 μ) → zLe μ μF := by
    intro x as f h
    obtain ⟨v, μ', h1, h2⟩ := h
    exact (hR _ _ _ _ _ h1).tr (hK _ _ _ _ h2)
  have hB : ∀ {c : Prop} {i1 l1 s1 i2 l2 s2}, ((c → K i1 l1 s1 μ) ∧ (¬ c → K i2 l2 s2 μ)) → zLe μ μF := fun h => (zBr h).elim (hK _ _ _ _) (hK _ _ _ _)
  have hBN : ∀ {c : Prop} {i1 l1 s1 i2 l2 s2}, ((¬ c → K i1 l1 s1 μ) ∧ (c → K i2 l2 s2 μ)) → zLe μ μF := fun h => (zBrN h).elim (hK _ _ _ _) (hK _ _ _ _)
  have hE : ∀ {o : Option Nat} {i1 l1 s1 i2 l2} {s2 : Nat → List Value}, o.elim (K i1 l1 s1 μ) (fun q => K i2 l2 (s2 q) μ) → zLe μ μF := fun h => (zEl2 h).elim (hK _ _ _ _) (fun ⟨_, q⟩ => hK _ _ _ _ q)
  have hA : ∀ {a : List (Nat × Nat)} {i r ip ls st}, K ip ls st (μ.1 ++ a, i, r) → zLe μ μF := by
    intro a i r ip ls st h
    exact (zLe.app (μ := μ) (μ' := (μ.1 ++ a, i, r)) rfl).tr (hK _ _ _ _ h)
  have hW : ∀ {i r ip ls st}, K ip ls st (μ.1, i, r) → zLe μ μF := by
    intro i r ip ls st h
    exact (zLe.of1 (μ := μ) (μ' := (μ.1, i, r)) rfl).tr (hK _ _ _ _ h)
  cases ins
  case tableswitch =>
    simp only [zStep] at h
    split at h
    · obtain ⟨b, hb⟩ := zSw_some _ _ h
      exact hK _ _ _ _ hb
    · exact h.elim
  case ifCond c off =>
    simp only [zStep] at h
    split at h
    · cases c <;> first | exact hB h | exact hBN h
    · exact h.elim
  case if_icmp c off =>
    simp only [zStep] at h
    split at h
    · cases c <;> first | exact hB h | exact hBN h
    · exact h.elim
  case getfield =>
    simp only [zStep] at h
    split at h
    · obtain ⟨s, -, h⟩ := zEl h
      have h := zBf h
      split at h
      · exact hK _ _ _ _ h
      · exact hE h
    · exact h.elim
  case putfield =>
    simp only [zStep] at h
    split at h
    · obtain ⟨s, -, h⟩ := zEl h
      have h := zBf h
      split at h
      · exact hW h
      · exact hW h.2
      · exact h.elim
    · obtain ⟨s, -, h⟩ := zEl h
      obtain ⟨s, -, h⟩ := zEl h
      have h := zBf h
      split at h
      · exact hW h
      · exact h.elim
    · exact h.elim
  case iaload =>
    simp only [zStep] at h
    split at h
    · rcases zEl2 h with h | ⟨s, h⟩
      · split at h
        · exact hK _ _ _ _ h.2
        · exact h.elim
      · exact hK _ _ _ _ (zBf h).2
    · exact h.elim
  case arraylength =>
    simp only [zStep] at h
    split at h
    · rcases zEl2 h with h | ⟨s, h⟩
      · split at h
        · exact hK _ _ _ _ h
        · exact h.elim
      · exact hK _ _ _ _ (zBf h)
    · exact h.elim
  case iastore =>
    simp only [zStep] at h
    split at h
    · obtain ⟨s, -, h⟩ := zEl h
      exact hW (zBf h).2
    · exact h.elim
  case bastore =>
    simp only [zStep] at h
    split at h
    · obtain ⟨s, -, h⟩ := zEl h
      exact hW (zBf h).2.2
    · exact h.elim
  case baload =>
    simp only [zStep] at h
    split at h
    · obtain ⟨s, -, h⟩ := zEl h
      exact hK _ _ _ _ (zBf h).2
    · exact h.elim
  case aaload =>
    simp only [zStep] at h
    split at h
    · obtain ⟨s, -, h⟩ := zEl h
      exact hE (zBf h).2
    · exact h.elim
  case aastore =>
    simp only [zStep] at h
    split at h
    · obtain ⟨s, -, h⟩ := zEl h
      obtain ⟨z, -, h⟩ := zEl h
      exact hW (zBf h).2
    · exact h.elim
  case newarray =>
    simp only [zStep] at h
    split at h
    · exact hA h.2.2.2
    · exact h.elim
  case anewarray =>
    simp only [zStep] at h
    split at h
    · exact hA h.2.2.2
    · exact h.elim
  case multianewarray =>
    simp only [zStep] at h
    split at h
    · exact hA h.2.2.2.2.2
    · exact h.elim
  case new => exact hA h.2
  case instanceof =>
    simp only [zStep] at h
    split at h
    · obtain ⟨s, -, h⟩ := zEl h
      exact hK _ _ _ _ (zBf h)
    · exact h.elim
  case invokestatic =>
    simp only [zStep] at h
    split at h
    · exact hC _ _ (fun v => (_, _, _)) (zBf h)
    · split at h
      · exact hK _ _ _ _ (zBf h)
      · exact h.elim
    · split at h
      · exact hK _ _ _ _ (zBf h)
      · exact h.elim
    · split at h
      · exact hK _ _ _ _ (zBf h)
      · exact h.elim
    · split at h
      · obtain ⟨s, -, h⟩ := zEl h
        obtain ⟨z, -, h⟩ := zEl h
        exact hW (zBf h).2.2.2.2.2
      · exact h.elim
    · exact h.elim
  case invokespecial =>
    simp only [zStep] at h
    split at h
    · split at h
      · exact hK _ _ _ _ (zBf h)
      · exact h.elim
    · split at h
      · obtain ⟨s, -, h⟩ := zEl h
        exact hC _ _ (fun v => (_, _, _)) (zBf h)
      · exact h.elim
  case invokevirtual =>
    simp only [zStep] at h
    split at h
    · split at h
      · split at h
        · exact hK _ _ _ _ h
        · exact h.elim
      · split at h
        · exact hK _ _ _ _ h.2
        · exact h.elim
      · exact h.elim
    · split at h
      · obtain ⟨s, -, h⟩ := zEl h
        exact hC _ _ (fun v => (_, _, _)) (zBf h)
      · exact h.elim
    · split at h
      · obtain ⟨s, -, h⟩ := zEl h
        exact hC _ _ (fun v => (_, _, _)) (zBf h)
      · exact h.elim
  case ireturn =>
    simp only [zStep] at h
    split at h
    · split at h
      · exact hZ _ h
      · exact hZ _ h.2
    · exact h.elim
  all_goals (simp only [zStep, zBin] at h)
  all_goals (repeat' split at h)
  all_goals first | exact h.elim | exact hK _ _ _ _ h | exact hK _ _ _ _ h.2 | exact hZ _ h
theorem zRun_le {Rr : zOr} {cd : List zE} {μF : zM} {Z : Option Value → zM → Prop} (hR : ∀ x as μ v μ', Rr x as μ v μ' → zLe μ μ') (hZ : ∀ v μ, Z v μ → zLe μ μF) : ∀ (n ip : Nat) (ls : zL) (st : List Value) (μ : zM), zRun zDyn Rr cd n ip ls st μ Z → zLe μ μF
  | 0, _, _, _, _, h => h.elim
  | n + 1, ip, ls, st, μ, h => by
    obtain ⟨e, -, h⟩ := zEl h
    exact zStep_le hR (fun ip ls st μ1 h => zRun_le hR hZ n ip ls st μ1 h) (fun v h => hZ v μ h) h
section ZS
variable {p : Program} {l : Launch} {ev : Env} {R : Room} {s : State} {m : MethodId} {args : Array Value} {below : List Frame} {meth : Method} {c : Code} {Q : State → Prop}
variable {cc : ByteArray} {own nL : Nat} {ret : Option FieldType} {init : Bool} {cd : List zE} {B : Nat} {D : va_G} {cA : Nat → ClassId} {ext : Nat → Nat} {L : Nat} {xs : Nat → Int32} {d : Nat} {Rr : zOr}
variable {L0 S0 : Nat} {μF : zM}
theorem zRep_sum : ∀ (n k : Nat), ((List.replicate n ((20, k) : Nat × Nat)).map (fun s => s.2)).sum = n * k
  | 0, k => by simp
  | n + 1, k => by
    rw [List.replicate_succ, List.map_cons, List.sum_cons, zRep_sum n k, Nat.succ_mul]
    exact Nat.add_comm _ _
set_option maxHeartbeats 2000000 in
theorem zs_multianewarray {pc x y i kk : Nat} {w : Int32} {t : List Nat} : zOne p l ev R s m args below meth c Q cc own nL ret init cd B D cA ext L xs d Rr μF L0 S0 (pc, .multianewarray i kk, x, y, w, t) := by
  intro C hR ip ls st μ H locs lsA cells slots K Z hd hn0 ho h hI hS hl hc hs hF hFs hle hk hz
  obtain ⟨hx, hb, hml, hown, hts, hK, hX, hch, hin, hfr, hlo⟩ := C
  have hn : zPc cd (ip + 1) = pc + 4 := hn0 rfl
  unfold zOpk at ho
  simp only [Bool.and_eq_true, beq_iff_eq] at ho
  obtain ⟨rfl, ho⟩ := ho
  have hws := zNC_get ho
  unfold zNw at hws
  rw [if_pos rfl] at hws
  simp only [zStep] at h
  split at h
  · rename_i k n st
    obtain ⟨h0, h1, h2, h3, hlen, h⟩ := h
    have hL1 := (hle _ _ _ _ h).1
    have hL2 := (hle _ _ _ _ h).2
    rw [zSl_app] at hL2
    simp only [List.length_append, List.length_cons, List.length_replicate, List.map_cons, List.sum_cons, zRep_sum] at hL1 hL2
    have hkN : n.toNatClampNeg * 4 ≤ 536870912 := by omega
    generalize hnN : n.toNatClampNeg = N at *
    generalize hkK : k.toNatClampNeg = M at *
    have hcl : (Cond.classLink (zRn own) i ("[" ++ (FieldType.array .int).toString)).before args s = true := hts _ (hws (.classLink (zRn own) i "[[I") (by simp))
    have hac : (Cond.arrayClass .int).before args s = true := hts _ (hws (.arrayClass .int) (by simp))
    have hcy : s.vm.findClass (FieldType.array .int).toString = some (cA 0) := (hK.2 0 _ rfl).2
    intro T hT Xs
    obtain ⟨vm₁, cX, comp, -, fA, fC, hO, -, X', step⟩ := Xs.multianewarray2F (ty := .int) hx hown hcl (va_AOA.use hX.1.2.2.2.1) hac (g := F0 m pc lsA (.int k :: .int n :: st.map (zc B ext))) rfl (by rw [hb]; exact hd) rfl h0 h1 (by rw [hnN]; exact hkN) (by rw [hkK]; show M * 4 ≤ _; omega) (by rw [hkK]; omega) rfl rfl (by rw [hnN]; omega) (by rw [hnN, hkK]; omega)
    have ec : some (cA 0) = some comp := hcy.symm.trans fC
    cases ec
    obtain rfl : cX = cA 2 := (zK_at hK).2.2.2 fA
    rw [hnN, hkK] at X' step
    generalize hFF : Jvm.Free.Multi.fill (T.setVm vm₁) (cA 2) (cA 0) N M (defaultValue .int) N = F at X' step
    have hTh : (T.setVm vm₁).heap = H := hT
    obtain ⟨f1, f2, -, -⟩ := Jvm.Free.Multi.fill_facts (T.setVm vm₁) (cA 2) (cA 0) N M (defaultValue .int) N
    rw [hFF, hTh] at f1 f2
    have hold : ∀ x : Nat, x < H.size → F.heap[x]? = H[x]? := fun x hx => by
      have := Jvm.Free.Multi.fill_old (T.setVm vm₁) (cA 2) (cA 0) N M (defaultValue .int) (a := x) (by rw [hTh]; exact hx) N
      rw [hFF, hTh] at this
      exact this
    have hrow : ∀ j : Nat, j < N → F.heap[H.size + 1 + j]? = some (vp_cell (cA 0) (M, .inl (fun _ => 0))) := fun j hj => by
      have := Jvm.Free.Multi.fill_inner (T.setVm vm₁) (cA 2) (cA 0) N M (defaultValue .int) N j hj
      rw [hFF, hTh] at this
      rw [this]
      exact congrArg some (arrV_new _ _ _)
    have hout : Jvm.Free.Multi.outerC (cA 2) N H.size N = vp_cell (cA 2) (N, .inr (.inr (.inr (.inr (fun i => if i < N then some (H.size + 1 + i) else none))))) := by
      rw [vp_cell_q]
      exact vr_outer (cA 2) N H.size N
    rw [hout] at f2
    obtain ⟨i1, i2, i3, i4, i5, i6, i7⟩ := hI
    have hne : ∀ {α : Type} (f : Nat → Nat → α) (z : α) (j : Nat), j < μ.1.length ∨ μ.1.length + (N + 1) ≤ j → zero2 f μ.1.length (N + 1) z j = f j := by
      intro α f z j hj
      funext b
      unfold zero2
      rw [if_neg (by omega)]
    have hI1 : zIv B D cA L xs (μ.1 ++ (22, N) :: List.replicate N (20, M), zero2 μ.2.1 μ.1.length (N + 1) 0, row2 (zero2 μ.2.2 μ.1.length (N + 1) none) μ.1.length (fun j => if j < N then some (μ.1.length + 1 + j) else none)) F.heap := by
      refine ⟨by rw [f1, i1]; simp; omega, ?_, ?_, ?_, by simp; omega, ?_, ?_⟩
      · rw [zW_app (μ := μ) (l := (22, N) :: List.replicate N (20, M)) rfl (fun j s hj => zEn_ne (hne _ _ _ (Or.inl hj)) (by
          funext b
          show row2 (zero2 μ.2.2 μ.1.length (N + 1) none) μ.1.length (fun j => if j < N then some (μ.1.length + 1 + j) else none) j b = μ.2.2 j b
          unfold row2
          rw [if_neg (by omega), hne _ _ _ (Or.inl hj)]))]
        refine va_P.app (i2.kept fun k q hq => hold q.1 ((i2 k q hq).lt)) ?_
        intro k9 q hq
        have hk9 : k9 < N + 1 := by simpa using (List.getElem?_eq_some_iff.mp hq).1
        rw [List.getElem?_map, List.getElem?_range (by simpa using hk9)] at hq
        obtain rfl := Option.some.inj hq
        cases k9 with
        | zero =>
          show va_at D vwCl (B + (μ.1.length + 0), zEn B cA _ (μ.1.length + 0) (22, N)) F.heap
          rw [zEn_q (by decide)]
          rw [i1] at f2
          refine f2.trans (congrArg some (congrArg (fun f => vp_cell (cA 2) (N, .inr (.inr (.inr (.inr f))))) (funext fun j => ?_)))
          show (if j < N then some (B + μ.1.length + 1 + j) else none) = (row2 (zero2 μ.2.2 μ.1.length (N + 1) none) μ.1.length (fun j => if j < N then some (μ.1.length + 1 + j) else none) (μ.1.length + 0) j).map (fun q => B + q)
          unfold row2
          rw [if_pos (show μ.1.length + 0 = μ.1.length from rfl)]
          show (if j < N then some (B + μ.1.length + 1 + j) else none) = (if j < N then some (μ.1.length + 1 + j) else none).map (fun q => B + q)
          by_cases hj : j < N
          · rw [if_pos hj, if_pos hj]
            simp only [Option.map_some]
            congr 1
            omega
          · rw [if_neg hj, if_neg hj]
            rfl
        | succ k9 =>
          have hg : ((22, N) :: List.replicate N (20, M)).getD (k9 + 1) ((0, 0) : Nat × Nat) = (20, M) := by
            have : k9 < N := by omega
            simp [List.getD, this]
          show va_at D vwCl (B + (μ.1.length + (k9 + 1)), zEn B cA _ (μ.1.length + (k9 + 1)) (((22, N) :: List.replicate N (20, M)).getD (k9 + 1) ((0, 0) : Nat × Nat))) F.heap
          rw [hg, zEn_i]
          have := hrow k9 (by omega)
          rw [show H.size + 1 + k9 = B + (μ.1.length + (k9 + 1)) by omega] at this
          refine this.trans (congrArg some (congrArg (fun f => vp_cell (cA 0) (M, .inl f)) (funext fun j => ?_)))
          show 0 = zero2 μ.2.1 μ.1.length (N + 1) 0 (μ.1.length + (k9 + 1)) j
          unfold zero2
          rw [if_pos (by omega)]
      · intro k9 s9 hs9
        have hs9 : (μ.1 ++ (22, N) :: List.replicate N (20, M))[k9]? = some s9 := hs9
        by_cases hk9 : k9 < μ.1.length
        · rw [List.getElem?_append_left hk9] at hs9
          exact i3 _ _ hs9
        · rw [List.getElem?_append_right (by omega)] at hs9
          rcases List.mem_cons.mp (List.mem_of_getElem? hs9) with e | e
          · rw [e]; exact Or.inr ⟨by show 20 ≤ 22; decide, by show 22 ≤ 25; decide⟩
          · rw [(List.mem_replicate.mp e).2]; exact Or.inr ⟨by show 20 ≤ 20; decide, by show 20 ≤ 25; decide⟩
      · intro a b q hq
        have hq : row2 (zero2 μ.2.2 μ.1.length (N + 1) none) μ.1.length (fun j => if j < N then some (μ.1.length + 1 + j) else none) a b = some q := hq
        unfold row2 at hq
        split at hq
        · have hq : (if b < N then some (μ.1.length + 1 + b) else none) = some q := hq
          split at hq
          · cases hq; omega
          · cases hq
        · unfold zero2 at hq
          split at hq
          · cases hq
          · exact i4 _ _ _ hq
      · rw [← i6]; exact hne _ _ _ (Or.inr (by omega))
      · rw [← i7]; show zero2 μ.2.1 μ.1.length (N + 1) 0 2000001 0 = _; rw [hne _ _ _ (Or.inr (by omega))]
    have hw := hk _ _ _ _ _ locs lsA (cells + 1 + N) (slots + N + N * M) h hI1 ⟨by rw [f1]; have := hS.1; omega, fun q g1 g2 => (hold q (Nat.lt_of_lt_of_le g1 hS.1)).trans (hS.2.1 q g1 g2), hS.2.2⟩ hl (by simp; omega) (by rw [zSl_app]; simp only [List.map_cons, List.sum_cons, zRep_sum]; omega)
    rw [hn, List.map_cons, zc_r (by omega), ← i1] at hw
    obtain ⟨t2, a1, b1⟩ := hw F rfl X'
    refine ⟨t2, step t2 ?_, b1⟩
    rw [hT]
    exact a1
  · exact h.elim

set_option maxHeartbeats 4000000 in
theorem zStep_all (e : zE) : zOne p l ev R s m args below meth c Q cc own nL ret init cd B D cA ext L xs d Rr μF L0 S0 e := by
  obtain ⟨pc, ins, x, y, w, t⟩ := e
  cases ins
  case aconst_null => exact zs_null
  case iconst => exact zs_iconst
  case bipush => exact zs_bipush
  case sipush => exact zs_sipush
  case ldc => exact zs_ldc
  case ldc_w => exact zs_ldc_w
  case lconst => exact zs_lconst
  case ldc2_w => exact zs_ldc2_w
  case iload_n => exact zs_iload_n
  case iload => exact zs_iload
  case lload_n => exact zs_lload_n
  case lload => exact zs_lload
  case aload_n => exact zs_aload_n
  case aload => exact zs_aload
  case istore_n => exact zs_istore_n
  case istore => exact zs_istore
  case lstore_n => exact zs_lstore_n
  case lstore => exact zs_lstore
  case astore_n => exact zs_astore_n
  case astore => exact zs_astore
  case iinc => exact zs_iinc
  case iadd => exact zs_iadd
  case isub => exact zs_isub
  case imul => exact zs_imul
  case iand => exact zs_iand
  case ior => exact zs_ior
  case ixor => exact zs_ixor
  case ishl => exact zs_ishl
  case ishr => exact zs_ishr
  case iushr => exact zs_iushr
  case ineg => exact zs_ineg
  case idiv => exact zs_idiv
  case irem => exact zs_irem
  case i2l => exact zs_i2l
  case i2b => exact zs_i2b
  case i2s => exact zs_i2s
  case ladd => exact zs_ladd
  case lmul => exact zs_lmul
  case ldiv => exact zs_ldiv
  case lrem => exact zs_lrem
  case lcmp => exact zs_lcmp
  case dup => exact zs_dup
  case dup2 => exact zs_dup2
  case pop => exact zs_pop
  case goto => exact zs_goto
  case ifnull => exact zs_ifnull
  case ifnonnull => exact zs_ifnonnull
  case tableswitch => exact zs_tableswitch
  case getfield => exact zs_getfield
  case putfield => exact zs_putfield
  case iaload => exact zs_iaload
  case iastore => exact zs_iastore
  case baload => exact zs_baload
  case bastore => exact zs_bastore
  case aaload => exact zs_aaload
  case aastore => exact zs_aastore
  case arraylength => exact zs_arraylength
  case newarray => exact zs_newarray
  case anewarray => exact zs_anewarray
  case multianewarray => exact zs_multianewarray
  case new => exact zs_new
  case instanceof => exact zs_instanceof
  case invokestatic => exact zs_invokestatic
  case invokespecial => exact zs_invokespecial
  case invokevirtual => exact zs_invokevirtual
  case return_ => exact zs_return
  case ireturn => exact zs_ireturn
  case lreturn => exact zs_lreturn
  case areturn => exact zs_areturn
  case ifCond c off => cases c <;> first | exact zs_if_eq | exact zs_if_ne | exact zs_if_lt | exact zs_if_ge | exact zs_if_gt | exact zs_if_le
  case if_icmp c off => cases c <;> first | exact zs_icmp_eq | exact zs_icmp_ne | exact zs_icmp_lt | exact zs_icmp_ge | exact zs_icmp_gt | exact zs_icmp_le
  all_goals (intro C hR ip ls st μ H locs lsA cells slots K Z hd hn0 ho h; exact absurd h (by simp [zStep, zBin]))
theorem zRun_sound {Rr : zOr} {vF : Option Value} (C : zCtx p R s m args meth c cc own nL ret init cd B D cA ext L xs d) (hR : ∀ x as μ v μ', Rr x as μ v μ' → x < 227 → zLe μ μ' ∧ zMet l B D cA ext L xs d x as μ v μ') (hR2 : ∀ x as μ v μ', Rr x as μ v μ' → zLe μ μ') (hF : μF.1.length ≤ L0 + R.cells) (hFs : zSl μF ≤ S0 + R.slots)
    (hret : ∀ (ins : Instr) (pc : Nat) (H : Heap) (locs : List Loc) (lsA : Array Slot) (cells slots : Nat), L0 + cells = μF.1.length → S0 + slots = zSl μF → zIv B D cA L xs μF H → va_S (fun q => B ≤ q) s.heap H locs → decode cc pc = .ok (ins, 1) → zRetOk ins vF ret → W p l ev R s m args below meth c H locs cells slots Q (F0 m pc lsA (vF.toList.map (zc B ext)))) :
    ∀ (n ip : Nat) (ls : zL) (st : List Value) (μ : zM) (H : Heap) (locs : List Loc) (lsA : Array Slot) (cells slots : Nat), zRun zDyn Rr cd n ip ls st μ (fun v μ1 => v = vF ∧ μ1 = μF) → zIv B D cA L xs μ H → va_S (fun q => B ≤ q) s.heap H locs → lv_has lsA nL (ls.map fun q => (q.1, zc B ext q.2)) → L0 + cells = μ.1.length → S0 + slots = zSl μ →
      W p l ev R s m args below meth c H locs cells slots Q (F0 m (zPc cd ip) lsA (st.map (zc B ext)))
  | 0, _, _, _, _, _, _, _, _, _, h, _, _, _, _, _ => h.elim
  | n + 1, ip, ls, st, μ, H, locs, lsA, cells, slots, h, hI, hS, hl, hc, hs => by
    obtain ⟨e, he, h⟩ := zEl h
    have hch := C.2.2.2.2.2.2.2.1 ip e he
    unfold zChk1 at hch
    simp only [Bool.and_eq_true, decide_eq_true_eq, Bool.or_eq_true, Bool.not_eq_true', beq_iff_eq] at hch
    obtain ⟨⟨h1, h2⟩, h3⟩ := hch
    have hpc : zPc cd ip = e.1 := by unfold zPc; rw [he]
    rw [hpc]
    refine zStep_all (μF := μF) e C hR ip ls st μ H locs lsA cells slots _ _ h1 (fun hf => ?_) h3 h hI hS hl hc hs hF hFs (fun ip ls st μ1 h => zRun_le hR2 (fun v μ h => by rw [h.2]; exact zLe.rf) n ip ls st μ1 h) (fun ip ls st μ1 H locs lsA cells slots h hI hS hl hc hs => zRun_sound C hR hR2 hF hFs hret n ip ls st μ1 H locs lsA cells slots h hI hS hl hc hs) ?_
    · rcases h2 with q | q
      · rw [hf] at q; cases q
      · exact q
    · intro v ins pc lsA hv hd hrt
      obtain ⟨rfl, rfl⟩ := hv
      exact hret ins pc H locs lsA cells slots hc hs hI hS hd hrt
end ZS
