/-! A STEP, A RUN, A METHOD -/
theorem zEl {α : Type} {o : Option α} {f : α → Prop} (h : o.elim False f) : ∃ a, o = some a ∧ f a := by
  cases o with
  | none => exact h.elim
  | some a => exact ⟨a, rfl, h⟩
theorem zEl2 {α : Type} {o : Option α} {P : Prop} {f : α → Prop} (h : o.elim P f) : P ∨ ∃ a, f a := by
  cases o with
  | none => exact Or.inl h
  | some a => exact Or.inr ⟨a, h⟩
theorem zBf {b : Bool} {P : Prop} (h : bif b then P else False) : P := by
  cases b with
  | true => exact h
  | false => exact h.elim
theorem zBr {c A B : Prop} (h : (c → A) ∧ (¬ c → B)) : A ∨ B := (Classical.em c).elim (fun q => Or.inl (h.1 q)) (fun q => Or.inr (h.2 q))
theorem zBrN {c A B : Prop} (h : (¬ c → A) ∧ (c → B)) : A ∨ B := (Classical.em c).elim (fun q => Or.inr (h.2 q)) (fun q => Or.inl (h.1 q))
theorem zSw_some {β : Type} {a : Int32} {K : β → Prop} {dd : β} : ∀ (t : List β) (w : Int32), zSw a K dd w t → ∃ b, K b
  | [], _, h => ⟨_, h⟩
  | b :: t, w, h => (zBr h).elim (fun q => ⟨b, q⟩) (fun q => zSw_some t _ q)
set_option maxHeartbeats 4000000 in
theorem zStep_le {Rr : zOr} {e : zE} {ip : Nat} {ls : zL} {st : List Value} {μ μF : zM} {K : Nat → zL → List Value → zM → Prop} {Z : Option Value → zM → Prop} (hR : ∀ x as μ v μ', Rr x as μ v μ' → zLe μ μ') (hK : ∀ ip ls st μ1, K ip ls st μ1 → zLe μ1 μF) (hZ : ∀ v, Z v μ → zLe μ μF) (h : zStep zDyn Rr e ip ls st μ K Z) : zLe μ μF := by
  obtain ⟨pc, ins, x, y, w, t⟩ := e
  have hC : ∀ (x : Nat) (as : List Value) (f : List Value → Nat × zL × List Value), zCall Rr x as μ (fun v μ => K (f v).1 (f v).2.1 (f v).2.2 μ) → zLe μ μF := by
    intro x as f h
    obtain ⟨v, μ', h1, h2⟩ := h
    exact (hR _ _ _ _ _ h1).tr (hK _ _ _ _ h2)
  have hB : ∀ {c : Prop} {i1 l1 s1 i2 l2 s2}, ((c → K i1 l1 s1 μ) ∧ (¬ c → K i2 l2 s2 μ)) → zLe μ μF := fun h => (zBr h).elim (hK _ _ _ _) (hK _ _ _ _)
  have hBN : ∀ {c : Prop} {i1 l1 s1 i2 l2 s2}, ((¬ c → K i1 l1 s1 μ) ∧ (c → K i2 l2 s2 μ)) → zLe μ μF := fun h => (zBrN h).elim (hK _ _ _ _) (hK _ _ _ _)
  have hE : ∀ {o : Option Nat} {i1 l1 s1 i2 l2} {s2 : Nat → List Value}, o.elim (K i1 l1 s1 μ) (fun q => K i2 l2 (s2 q) μ) → zLe μ μF := fun h => (zEl2 h).elim (hK _ _ _ _) (fun ⟨_, q⟩ => hK _ _ _ _ q)
  have hA : ∀ {a : List (Nat × Nat)} {i r ip ls st}, K ip ls st (μ.1 ++ a, i, r) → zLe μ μF := by
    intro a i r ip ls st h
    exact (zLe.app (μ := μ) (μ' := (μ.1 ++ a, i, r)) rfl).tr (hK _ _ _ _ h)
  have hW : ∀ {i r ip ls st}, K ip ls st (μ.1, i, r) → zLe μ μF := by
    intro i r ip ls st h
    exact (zLe.of1 (μ := μ) (μ' := (μ.1, i, r)) rfl).tr (hK _ _ _ _ h)
  cases ins
  case tableswitch =>
    simp only [zStep] at h
    split at h
    · obtain ⟨b, hb⟩ := zSw_some _ _ h
      exact hK _ _ _ _ hb
    · exact h.elim
  case ifCond c off =>
    simp only [zStep] at h
    split at h
    · cases c <;> first | exact hB h | exact hBN h
    · exact h.elim
  case if_icmp c off =>
    simp only [zStep] at h
    split at h
    · cases c <;> first | exact hB h | exact hBN h
    · exact h.elim
  case getfield =>
    simp only [zStep] at h
    split at h
    · obtain ⟨s, -, h⟩ := zEl h
      have h := zBf h
      split at h
      · exact hK _ _ _ _ h
      · exact hE h
    · exact h.elim
  case putfield =>
    simp only [zStep] at h
    split at h
    · obtain ⟨s, -, h⟩ := zEl h
      have h := zBf h
      split at h
      · exact hW h
      · exact hW h.2
      · exact h.elim
    · obtain ⟨s, -, h⟩ := zEl h
      obtain ⟨s, -, h⟩ := zEl h
      have h := zBf h
      split at h
      · exact hW h
      · exact h.elim
    · exact h.elim
  case iaload =>
    simp only [zStep] at h
    split at h
    · rcases zEl2 h with h | ⟨s, h⟩
      · split at h
        · exact hK _ _ _ _ h.2
        · exact h.elim
      · exact hK _ _ _ _ (zBf h).2
    · exact h.elim
  case arraylength =>
    simp only [zStep] at h
    split at h
    · rcases zEl2 h with h | ⟨s, h⟩
      · split at h
        · exact hK _ _ _ _ h
        · exact h.elim
      · exact hK _ _ _ _ (zBf h)
    · exact h.elim
  case iastore =>
    simp only [zStep] at h
    split at h
    · obtain ⟨s, -, h⟩ := zEl h
      exact hW (zBf h).2
    · exact h.elim
  case bastore =>
    simp only [zStep] at h
    split at h
    · obtain ⟨s, -, h⟩ := zEl h
      exact hW (zBf h).2.2
    · exact h.elim
  case baload =>
    simp only [zStep] at h
    split at h
    · obtain ⟨s, -, h⟩ := zEl h
      exact hK _ _ _ _ (zBf h).2
    · exact h.elim
  case aaload =>
    simp only [zStep] at h
    split at h
    · obtain ⟨s, -, h⟩ := zEl h
      exact hE (zBf h).2
    · exact h.elim
  case aastore =>
    simp only [zStep] at h
    split at h
    · obtain ⟨s, -, h⟩ := zEl h
      obtain ⟨z, -, h⟩ := zEl h
      exact hW (zBf h).2
    · exact h.elim
  case newarray =>
    simp only [zStep] at h
    split at h
    · exact hA h.2.2.2
    · exact h.elim
  case anewarray =>
    simp only [zStep] at h
    split at h
    · exact hA h.2.2.2
    · exact h.elim
  case multianewarray =>
    simp only [zStep] at h
    split at h
    · exact hA h.2.2.2.2.2
    · exact h.elim
  case new => exact hA h.2
  case instanceof =>
    simp only [zStep] at h
    split at h
    · obtain ⟨s, -, h⟩ := zEl h
      exact hK _ _ _ _ (zBf h)
    · exact h.elim
  case invokestatic =>
    simp only [zStep] at h
    split at h
    · exact hC _ _ (fun v => (_, _, _)) (zBf h)
    · split at h
      · exact hK _ _ _ _ (zBf h)
      · exact h.elim
    · split at h
      · exact hK _ _ _ _ (zBf h)
      · exact h.elim
    · split at h
      · exact hK _ _ _ _ (zBf h)
      · exact h.elim
    · split at h
      · obtain ⟨s, -, h⟩ := zEl h
        obtain ⟨z, -, h⟩ := zEl h
        exact hW (zBf h).2.2.2.2.2
      · exact h.elim
    · exact h.elim
  case invokespecial =>
    simp only [zStep] at h
    split at h
    · split at h
      · exact hK _ _ _ _ (zBf h)
      · exact h.elim
    · split at h
      · obtain ⟨s, -, h⟩ := zEl h
        exact hC _ _ (fun v => (_, _, _)) (zBf h)
      · exact h.elim
  case invokevirtual =>
    simp only [zStep] at h
    split at h
    · split at h
      · split at h
        · exact hK _ _ _ _ h
        · exact h.elim
      · split at h
        · exact hK _ _ _ _ h.2
        · exact h.elim
      · exact h.elim
    · split at h
      · obtain ⟨s, -, h⟩ := zEl h
        exact hC _ _ (fun v => (_, _, _)) (zBf h)
      · exact h.elim
    · split at h
      · obtain ⟨s, -, h⟩ := zEl h
        exact hC _ _ (fun v => (_, _, _)) (zBf h)
      · exact h.elim
  case ireturn =>
    simp only [zStep] at h
    split at h
    · split at h
      · exact hZ _ h
      · exact hZ _ h.2
    · exact h.elim
  all_goals (simp only [zStep, zBin] at h)
  all_goals (repeat' split at h)
  all_goals first | exact h.elim | exact hK _ _ _ _ h | exact hK _ _ _ _ h.2 | exact hZ _ h
theorem zRun_le {Rr : zOr} {cd : List zE} {μF : zM} {Z : Option Value → zM → Prop} (hR : ∀ x as μ v μ', Rr x as μ v μ' → zLe μ μ') (hZ : ∀ v μ, Z v μ → zLe μ μF) : ∀ (n ip : Nat) (ls : zL) (st : List Value) (μ : zM), zRun zDyn Rr cd n ip ls st μ Z → zLe μ μF
  | 0, _, _, _, _, h => h.elim
  | n + 1, ip, ls, st, μ, h => by
    obtain ⟨e, -, h⟩ := zEl h
    exact zStep_le hR (fun ip ls st μ1 h => zRun_le hR hZ n ip ls st μ1 h) (fun v h => hZ v μ h) h
section ZS
variable {p : Program} {l : Launch} {ev : Env} {R : Room} {s : State} {m : MethodId} {args : Array Value} {below : List Frame} {meth : Method} {c : Code} {Q : State → Prop}
variable {cc : ByteArray} {own nL : Nat} {ret : Option FieldType} {init : Bool} {cd : List zE} {B : Nat} {D : va_G} {cA : Nat → ClassId} {ext : Nat → Nat} {L : Nat} {xs : Nat → Int32} {d : Nat} {Rr : zOr}
variable {L0 S0 : Nat} {μF : zM}
theorem zs_multianewarray {pc x y i k : Nat} {w : Int32} {t : List Nat} : zOne p l ev R s m args below meth c Q cc own nL ret init cd B D cA ext L xs d Rr μF L0 S0 (pc, .multianewarray i k, x, y, w, t) := sorry
set_option maxHeartbeats 4000000 in
theorem zStep_all (e : zE) : zOne p l ev R s m args below meth c Q cc own nL ret init cd B D cA ext L xs d Rr μF L0 S0 e := by
  obtain ⟨pc, ins, x, y, w, t⟩ := e
  cases ins
  case aconst_null => exact zs_null
  case iconst => exact zs_iconst
  case bipush => exact zs_bipush
  case sipush => exact zs_sipush
  case ldc => exact zs_ldc
  case ldc_w => exact zs_ldc_w
  case lconst => exact zs_lconst
  case ldc2_w => exact zs_ldc2_w
  case iload_n => exact zs_iload_n
  case iload => exact zs_iload
  case lload_n => exact zs_lload_n
  case lload => exact zs_lload
  case aload_n => exact zs_aload_n
  case aload => exact zs_aload
  case istore_n => exact zs_istore_n
  case istore => exact zs_istore
  case lstore_n => exact zs_lstore_n
  case lstore => exact zs_lstore
  case astore_n => exact zs_astore_n
  case astore => exact zs_astore
  case iinc => exact zs_iinc
  case iadd => exact zs_iadd
  case isub => exact zs_isub
  case imul => exact zs_imul
  case iand => exact zs_iand
  case ior => exact zs_ior
  case ixor => exact zs_ixor
  case ishl => exact zs_ishl
  case ishr => exact zs_ishr
  case iushr => exact zs_iushr
  case ineg => exact zs_ineg
  case idiv => exact zs_idiv
  case irem => exact zs_irem
  case i2l => exact zs_i2l
  case i2b => exact zs_i2b
  case i2s => exact zs_i2s
  case ladd => exact zs_ladd
  case lmul => exact zs_lmul
  case ldiv => exact zs_ldiv
  case lrem => exact zs_lrem
  case lcmp => exact zs_lcmp
  case dup => exact zs_dup
  case dup2 => exact zs_dup2
  case pop => exact zs_pop
  case goto => exact zs_goto
  case ifnull => exact zs_ifnull
  case ifnonnull => exact zs_ifnonnull
  case tableswitch => exact zs_tableswitch
  case getfield => exact zs_getfield
  case putfield => exact zs_putfield
  case iaload => exact zs_iaload
  case iastore => exact zs_iastore
  case baload => exact zs_baload
  case bastore => exact zs_bastore
  case aaload => exact zs_aaload
  case aastore => exact zs_aastore
  case arraylength => exact zs_arraylength
  case newarray => exact zs_newarray
  case anewarray => exact zs_anewarray
  case multianewarray => exact zs_multianewarray
  case new => exact zs_new
  case instanceof => exact zs_instanceof
  case invokestatic => exact zs_invokestatic
  case invokespecial => exact zs_invokespecial
  case invokevirtual => exact zs_invokevirtual
  case return_ => exact zs_return
  case ireturn => exact zs_ireturn
  case lreturn => exact zs_lreturn
  case areturn => exact zs_areturn
  case ifCond c off => cases c <;> first | exact zs_if_eq | exact zs_if_ne | exact zs_if_lt | exact zs_if_ge | exact zs_if_gt | exact zs_if_le
  case if_icmp c off => cases c <;> first | exact zs_icmp_eq | exact zs_icmp_ne | exact zs_icmp_lt | exact zs_icmp_ge | exact zs_icmp_gt | exact zs_icmp_le
  all_goals (intro C hR ip ls st μ H locs lsA cells slots K Z hd hn0 ho h; exact absurd h (by simp [zStep, zBin]))
theorem zRun_sound {Rr : zOr} {vF : Option Value} (C : zCtx p R s m args meth c cc own nL ret init cd B D cA ext L xs d) (hR : ∀ x as μ v μ', Rr x as μ v μ' → x < 227 → zLe μ μ' ∧ zMet l B D cA ext L xs d x as μ v μ') (hR2 : ∀ x as μ v μ', Rr x as μ v μ' → zLe μ μ') (hF : μF.1.length ≤ L0 + R.cells) (hFs : zSl μF ≤ S0 + R.slots)
    (hret : ∀ (ins : Instr) (pc : Nat) (H : Heap) (locs : List Loc) (lsA : Array Slot) (cells slots : Nat), L0 + cells = μF.1.length → S0 + slots = zSl μF → zIv B D cA L xs μF H → va_S (fun q => B ≤ q) s.heap H locs → decode cc pc = .ok (ins, 1) → zRetOk ins vF ret → W p l ev R s m args below meth c H locs cells slots Q (F0 m pc lsA (vF.toList.map (zc B ext)))) :
    ∀ (n ip : Nat) (ls : zL) (st : List Value) (μ : zM) (H : Heap) (locs : List Loc) (lsA : Array Slot) (cells slots : Nat), zRun zDyn Rr cd n ip ls st μ (fun v μ1 => v = vF ∧ μ1 = μF) → zIv B D cA L xs μ H → va_S (fun q => B ≤ q) s.heap H locs → lv_has lsA nL (ls.map fun q => (q.1, zc B ext q.2)) → L0 + cells = μ.1.length → S0 + slots = zSl μ →
      W p l ev R s m args below meth c H locs cells slots Q (F0 m (zPc cd ip) lsA (st.map (zc B ext)))
  | 0, _, _, _, _, _, _, _, _, _, h, _, _, _, _, _ => h.elim
  | n + 1, ip, ls, st, μ, H, locs, lsA, cells, slots, h, hI, hS, hl, hc, hs => by
    obtain ⟨e, he, h⟩ := zEl h
    have hch := C.2.2.2.2.2.2.2.1 ip e he
    unfold zChk1 at hch
    simp only [Bool.and_eq_true, decide_eq_true_eq, Bool.or_eq_true, Bool.not_eq_true', beq_iff_eq] at hch
    obtain ⟨⟨h1, h2⟩, h3⟩ := hch
    have hpc : zPc cd ip = e.1 := by unfold zPc; rw [he]
    rw [hpc]
    refine zStep_all (μF := μF) e C hR ip ls st μ H locs lsA cells slots _ _ h1 (fun hf => ?_) h3 h hI hS hl hc hs hF hFs (fun ip ls st μ1 h => zRun_le hR2 (fun v μ h => by rw [h.2]; exact zLe.rf) n ip ls st μ1 h) (fun ip ls st μ1 H locs lsA cells slots h hI hS hl hc hs => zRun_sound C hR hR2 hF hFs hret n ip ls st μ1 H locs lsA cells slots h hI hS hl hc hs) ?_
    · rcases h2 with q | q
      · rw [hf] at q; cases q
      · exact q
    · intro v ins pc lsA hv hd hrt
      obtain ⟨rfl, rfl⟩ := hv
      exact hret ins pc H locs lsA cells slots hc hs hI hS hd hrt
end ZS
