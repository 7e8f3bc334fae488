/-! CALLS ON OBJECTS -/
theorem zMC_nm {q : Nat × Nat × Nat × Nat × Nat × List Nat} (hq : q ∈ zMC) : (q.2.2.2.2.1 = 2 ∨ q.2.2.2.2.1 = 3 → (zy q.2.2.1).name = "<init>") ∧ (q.2.2.2.2.1 = 4 ∨ q.2.2.2.2.1 = 5 → (zy q.2.2.1).name ≠ "<init>") ∧ (q.2.2.2.2.1 = 6 → ∀ ci ∈ [0, 2, 3, 4, 5, 10], (zy (zDyn q.2.2.1 ci)).name = (zy q.2.2.1).name ∧ (zy (zDyn q.2.2.1 ci)).desc = (zy q.2.2.1).desc) := by
  have h := List.all_eq_true.mp zMC_n q hq
  refine ⟨fun e => ?_, fun e => ?_, fun e ci hci => ?_⟩
  · rcases e with e | e <;> rw [e] at h <;> exact of_decide_eq_true h
  · rcases e with e | e <;> rw [e] at h <;> exact of_decide_eq_true h
  · rw [e] at h
    have h := List.all_eq_true.mp h ci hci
    rw [Bool.and_eq_true, decide_eq_true_eq, decide_eq_true_eq] at h
    exact h
/-- the constructors of nest mates -/
theorem zMC_3 : zMC.all (fun q => !(q.2.2.2.2.1 == 3) || (q.1 == 11 && ((q.2.1 == 9 && q.2.2.1 == 2) || (q.2.1 == 41 && q.2.2.1 == 18) || (q.2.1 == 54 && q.2.2.1 == 42) || (q.2.1 == 81 && q.2.2.1 == 14)))) = true := by decide +kernel
theorem zMC_5 : zMC.all (fun q => !(q.2.2.2.2.1 == 5) || decide ((zy q.2.2.1).cls = RX3)) = true := by decide +kernel
theorem zRn_11 : zRn 11 = RX11 := rfl
theorem zDrop {st : List Value} {y r : Nat} {rest : List Value} (h : st.drop y = .ref r :: rest) : st = st.take y ++ .ref r :: rest ∧ (st.take y).length = y := by
  refine ⟨by rw [← h, List.take_append_drop], ?_⟩
  rw [List.length_take]
  refine Nat.min_eq_left ?_
  rcases Nat.lt_or_ge y st.length with q | q
  · omega
  · rw [List.drop_eq_nil_of_le q] at h; cases h
theorem zCS {C : String} {y : MethodName} : (⟨y.cls, y.name, y.desc⟩ : MethodName) = y := rfl
theorem zOpkV {own nL pc n x y c : Nat} {w : Int32} {ret : Option FieldType} {init : Bool} {cd : List zE} (h : zOpk own nL ret init cd (pc, .invokevirtual n, x, y, w, [c]) = true) (hc : c ≠ 99) : (decide (c < 13) && zow x == c && zMC.any (fun q => q.2.1 == n && q.1 == own && q.2.2.1 == x && q.2.2.2.1 == y && q.2.2.2.2.1 == 1)) = true := by
  simp only [zOpk] at h
  exact h
theorem zOpkD {own nL pc n x y : Nat} {w : Int32} {t : List Nat} {ret : Option FieldType} {init : Bool} {cd : List zE} (h : zOpk own nL ret init cd (pc, .invokevirtual n, x, y, w, t) = true) (h1 : t = [] → False) (h2 : ∀ c, t = [c] → False) : zMC.any (fun q => q.2.1 == n && q.1 == own && q.2.2.1 == x && q.2.2.2.1 == y && q.2.2.2.2.1 == 6) = true := by
  simp only [zOpk] at h
  split at h
  · exact (h1 rfl).elim
  · exact (h2 _ rfl).elim
  · exact (h2 _ rfl).elim
  · exact h
section ZS
variable {p : Program} {l : Launch} {ev : Env} {R : Room} {s : State} {m : MethodId} {args : Array Value} {below : List Frame} {meth : Method} {c : Code} {Q : State → Prop}
variable {cc : ByteArray} {own nL : Nat} {ret : Option FieldType} {init : Bool} {cd : List zE} {B : Nat} {D : va_G} {cA : Nat → ClassId} {ext : Nat → Nat} {L : Nat} {xs : Nat → Int32} {d : Nat} {Rr : zOr}
variable {L0 S0 : Nat} {μF : zM} {H : Heap} {locs : List Loc} {cells slots : Nat}
theorem zCallSU {T : State} (X : Stand p l ev R s m args below meth c T locs cells slots) (hexec : p.tables.exec = Jvm.exec) {own refC : String} {index : Nat} {y : MethodName} {bytes : ByteArray} {maxL : Nat} {ret : Option FieldType}
    (hown : s.vm.findClass own = some m.cls) (hlink : (Cond.methodLink own index ⟨refC, y.name, y.desc⟩).before args s = true) (hsame : (Cond.sameMethod refC y.cls y.name y.desc).before args s = true) (hsup : (Cond.superclass own refC).before args s = true)
    (hsub : ∀ ps pk, s.vm.findClass refC = some ps → s.vm.findClass y.cls = some pk → s.vm.isSubclass ps pk = true)
    (hinst : (Cond.instanceMethod y).before args s = true) (hcode : (Cond.code y bytes maxL ret).before args s = true) (hno : y.name ≠ "<init>")
    {W : Nat} {Pre : Pt → Array Value → Prop} {Post : Pt → Array Value → Option Value → Pt → Prop} (hK : Back l R p ev below s args y 3 W Pre Post)
    {b : Addr} {cellB : Cell} {kB : Class} (hcell : T.heap[b]? = some cellB) (hobj : cellB.vm.isStatics = false) (hkB : s.vm.classes[cellB.cls]? = some kB)
    {g : JFrame} (hg : g.method = m) (hsize : g.locals.size = c.maxLocals) {argsL rest : List Value} (hlen : ∀ sig, parseMethodDescriptor y.desc = some sig → argsL.length = sig.parameters.length)
    (hstack : g.stack = argsL.reverse ++ .ref b :: rest) (hW : 2 * g.monitorRoom + (rest.map fun v => v.category).sum ≤ W) (hdg : decode c.code g.pc = .ok (.invokespecial index, 3))
    (hpre : ∀ vm₁, s.WarmedH vm₁ → Pre ⟨T.setVm vm₁, locs, cells, slots⟩ (Value.ref b :: argsL).toArray) :
    ∃ (v : Option Value) (vm₁ : Vm) (B : Pt), s.WarmedH vm₁ ∧ Stand p l ev R s m args below meth c B.U B.locs B.cells B.slots ∧ Post ⟨T.setVm vm₁, locs, cells, slots⟩ (Value.ref b :: argsL).toArray v B ∧
      ∀ target, Steps p.tables ev below (B.U.setTop { g with pc := g.pc + 3, stack := v.toList ++ rest }) target → Steps p.tables ev below (T.setTop g) target := by
  obtain ⟨mk, methM, hnamed, hmethM, hstM, habM⟩ := Cond.instanceMethod_spec hinst
  obtain ⟨methM', cM, hmethM', -, -, -, -, -, -, hsigM⟩ := Cond.code_spec hnamed hcode
  cases hmethM.symm.trans hmethM'
  obtain ⟨ps, dk, kp, hps, hdk, hkp, hsuper, -, -, hnid⟩ := Cond.superclass_spec hown hsup
  have hn : s.methodNamed? ⟨y.cls, y.name, y.desc⟩ = some mk := hnamed
  have hsb : s.vm.isSubclass ps mk.cls = true := hsub _ _ hps (findClass_of_methodNamed hnamed)
  obtain ⟨vm₁, X₁, hstep₁⟩ := X.invokespecialUp hexec (x := ⟨refC, y.name, y.desc⟩) (owner := y.cls) hown hlink hsame hn hmethM hstM habM hno hdk hnid hps hsuper hsb (a := b) (cell := cellB) hcell
    (fun z h => by rw [h] at hobj; cases hobj) hkB (g := g) hg (argsL := argsL) (rest := rest) (hlen _ hsigM) hstack hdg
  obtain ⟨v, B, X', hpost, hsteps⟩ := hK m meth c ⟨T.setVm vm₁, locs, cells, slots⟩ { g with stack := rest } (.invokespecial index) mk (Value.ref b :: argsL).toArray X₁ hg hsize hdg hW (X₁.named hnamed) (hpre vm₁ X₁.warmed)
  exact ⟨v, vm₁, B, X₁.warmed, X', hpost, fun target h => hstep₁ _ (by rw [doInvoke_state]; exact hsteps.trans h)⟩
theorem zRunSU {y : MethodName} {bytes cc : ByteArray} {maxL nL mc ms n index : Nat} {ret : Option FieldType} {ws : List Cond} {rm : Room} {Pc : Array Value → State → Prop} {Qc : Array Value → State → Outcome → State → Prop} {free : Addr → Prop} {Ts : List Cond} {own C refC : String} {b : Addr} {As rest : List Value} {g : JFrame}
    (S : CallFix p m c cc nL s args Ts own) (hM : Met l y ws rm Pc Qc mc ms free) (hrc : rm.cells = mc) (hrs : rm.slots = ms) (hfr : rm.frames + 1 ≤ R.frames) (hlo : 8 + (maxL + 11) + rm.locals ≤ R.locals) (hws : ∀ w ∈ ws, ∀ (a' : Array Value) (U : State), s.WarmedH U.vm → w.before a' U = true) (hcw : Cond.code y bytes maxL ret ∈ ws)
    (hl1 : (Cond.methodLink own index ⟨refC, y.name, y.desc⟩).before args s = true) (hl2 : (Cond.sameMethod refC y.cls y.name y.desc).before args s = true) (hl3 : (Cond.superclass own refC).before args s = true)
    (hsub : ∀ ps pk, s.vm.findClass refC = some ps → s.vm.findClass y.cls = some pk → s.vm.isSubclass ps pk = true) (hl4 : (Cond.instanceMethod y).before args s = true) (hini : (Cond.initialized y.cls).before args s = true) (hcode : (Cond.code y bytes maxL ret).before args s = true) (hno : y.name ≠ "<init>") (hlen : ∀ sig, parseMethodDescriptor y.desc = some sig → n = sig.parameters.length) (hp : PreV s H C b Pc As)
    (hg : g.method = m) (hn : As.length = n) (hsize : g.locals.size = nL) (hstack : g.stack = As.reverse ++ .ref b :: rest) (hW : 2 * g.monitorRoom + (rest.map fun v => v.category).sum ≤ 8) (hdg : decode cc g.pc = .ok (.invokespecial index, 3)) (hf : cells + mc ≤ R.cells ∧ slots + ms ≤ R.slots) :
    va_Run p l ev R s m args below meth c H locs cells slots mc ms g rest (Qc (Value.ref b :: As).toArray) (free) := by
  have hK : Back l R p ev below s args y 3 8 (PreOf R mc ms Pc) (PostOf Qc mc ms free) := back_of (bytes := bytes) (maxL := maxL) (ret := ret) hM hp.1 hrc hrs hfr hlo hws hcw (fun a' U hW => word_at hW (Or.inl (by first | rfl | simp [Cond.onTables, Cond.keeps, Cond.steady])) hini)
  obtain ⟨hx, hb, hml, ho, -⟩ := S
  obtain ⟨-, ⟨cellB, hcB, hoB, hclB⟩, hPc⟩ := hp
  obtain ⟨kB, hkB, -⟩ := Vm.findClass_spec hclB
  intro T hT X
  obtain ⟨v, vm₁, ⟨U', l2, c2, s2⟩, hW₁, X', ⟨g', mk, t, L, e1, e2, hq, h1, hL, h2, h3⟩, st⟩ := zCallSU X hx (bytes := bytes) (maxL := maxL) (ret := ret) ho hl1 hl2 hl3 hsub hl4 hcode hno hK (by rw [hT]; exact hcB) hoB hkB hg (hsize.trans hml.symm) (argsL := As) (rest := rest) (fun sig h => hn.trans (hlen sig h)) hstack hW (by rw [hb]; exact hdg)
    (fun vm₁ hW₁ => ⟨hf.1, hf.2, hPc (T.setVm vm₁) hT hW₁⟩)
  dsimp only [Pt.U, Pt.locs, Pt.cells, Pt.slots] at X' e1 e2 h1 h2 h3 st
  subst h1; subst h2; subst h3
  exact ⟨v, (T.setVm vm₁).calling g' mk (Value.ref b :: As).toArray, t, U', L, hT, X', hL, e1, e2, hq, st⟩


set_option maxHeartbeats 1000000 in
theorem zs_invokespecial {n : Nat} {pc x y : Nat} {w : Int32} {t : List Nat} : zOne p l ev R s m args below meth c Q cc own nL ret init cd B D cA ext L xs d Rr μF L0 S0 (pc, .invokespecial n, x, y, w, t) := by
  intro C hR ip ls st μ H locs lsA cells slots K Z hd hn0 ho h hI hS hl hc hs hF hFs hle hk hz
  obtain ⟨hx, hb, hml, hown, hts, hK, hX, hch, hin, hfr, hlo⟩ := C
  have hn : zPc cd (ip + 1) = pc + 3 := hn0 rfl
  unfold zOpk at ho
  simp only [zStep] at h
  split at h
  · simp only at ho
    obtain ⟨⟨o, i, k, is⟩, hq, he⟩ := List.any_eq_true.mp ho
    simp only [Bool.and_eq_true, beq_iff_eq] at he
    obtain ⟨⟨rfl, rfl⟩, rfl⟩ := he
    have hws := zHasL_in (List.all_eq_true.mp zPC_ok _ hq)
    split at h
    · rename_i r st
      cases hbl : Nat.ble st.length 4 with
      | false => rw [hbl] at h; exact h.elim
      | true =>
      rw [hbl] at h
      rw [Nat.ble_eq] at hbl
      refine W.objInit hx hb hown (hts _ (hws _ (by simp [zPw]))) (hts _ (hws (.instanceMethod Lib.objectInit) (by simp [zPw]))) (hts _ (hws (.code Lib.objectInit ⟨#[0xb1]⟩ 1 none) (by simp [zPw]))) rfl (hl.1.trans hml.symm) rfl hd (by omega) (by show 2 * 0 + _ + 12 ≤ _; have := zRm (B := B) (ext := ext) hbl; omega) ?_
      have hw := hk _ _ _ _ _ _ _ _ _ h hI hS hl hc hs
      rw [hn] at hw
      exact hw
    · exact h.elim
  · rename_i ht
    have ho : (decide (t.headD 0 < 13) && zMC.any (fun q => q.2.1 == n && q.1 == own && q.2.2.1 == x && q.2.2.2.1 == y && decide (2 ≤ q.2.2.2.2.1) && decide (q.2.2.2.2.1 ≤ 5))) = true := by
      cases t with
      | nil => exact absurd rfl ht
      | cons a b => exact ho
    rw [Bool.and_eq_true, decide_eq_true_eq] at ho
    obtain ⟨ht13, ho⟩ := ho
    split at h
    · rename_i r rest hdr
      cases hs0 : μ.1[r]? with
      | none => rw [hs0] at h; exact h.elim
      | some s0 =>
      rw [hs0] at h
      simp only [Option.elim_some] at h
      have ra := zFr hI hs0
      obtain ⟨hst, htl⟩ := zDrop hdr
      cases hbl : (zSub s0.1 (t.headD 0) && Nat.ble rest.length 4) with
      | false => rw [hbl] at h; exact h.elim
      | true =>
      rw [hbl] at h
      simp only [Bool.and_eq_true, Nat.ble_eq] at hbl
      obtain ⟨v, μ', h1, h2⟩ := h
      obtain ⟨⟨o, i, x', y', k, is⟩, hq, he⟩ := List.any_eq_true.mp ho
      simp only [Bool.and_eq_true, beq_iff_eq, decide_eq_true_eq] at he
      obtain ⟨⟨⟨⟨⟨rfl, rfl⟩, rfl⟩, rfl⟩, hk2⟩, hk5⟩ := he
      obtain ⟨hws, hck⟩ := zMC_mem hq
      have hnm := zMC_nm hq
      unfold zMchk at hck
      simp only [Bool.and_eq_true, decide_eq_true_eq] at hck
      obtain ⟨⟨hna, h227⟩, hck⟩ := hck
      obtain ⟨hle1, hM⟩ := hR _ _ _ _ _ h1 h227
      obtain ⟨f1, f2, f3, f4⟩ := zFit hle1 (hle _ _ _ _ h2) hc hs hF hFs
      obtain ⟨hd2, hml2⟩ := zNc_fact h227
      have hRm := zRoomOk (R := R) hfr hlo hml2
      have hstk : (st.map (zc B ext)) = ((st.take y').reverse.map (zc B ext)).reverse ++ .ref (B + r) :: rest.map (zc B ext) := by
        rw [← List.map_reverse, List.reverse_reverse, ← zc_r (ext := ext) ra, ← List.map_cons, ← List.map_append, ← hst]
      have hnl : ((st.take y').reverse.map (zc B ext)).length = y' := by rw [List.length_map, List.length_reverse]; exact htl
      have hpre := zPreW (as := .ref r :: (st.take y').reverse) hI hK hX hS
      rw [List.map_cons, zc_r ra] at hpre
      unfold zMet at hM
      rw [List.map_cons, zc_r ra] at hM
      have hgw : ∀ w ∈ zcd x' :: zTb, w ∈ zTb := fun w h => by
        rcases List.mem_cons.mp h with h | h
        · rw [h]; exact zcd_in h227
        · exact h
      rw [hstk]
      have hk4 : k = 2 ∨ k = 3 ∨ k = 4 ∨ k = 5 := by omega
      rw [hna] at hd2
      rcases hk4 with rfl | rfl | rfl | rfl
      · have hz : zrt x' = none := of_decide_eq_true hck
        have hcz : zcd x' :: zTb = Cond.code (zy x') (zby x') (zml x') none :: zTb := by unfold zcd; rw [hz]
        refine zCont (va_runI (As := (st.take y').reverse.map (zc B ext)) (rest := rest.map (zc B ext)) ⟨hx, hb, hml, hown, hts⟩ hM (cwI y' hts (zGood hgw) hcz rfl rfl (hts _ (hws (.initialized (zy x').cls) (by simp [zMw]))) (hts _ (hws (.methodLink (zRn o) i (zy x')) (by simp [zMw]))) (hts _ (hws (.instanceMethod (zy x')) (by simp [zMw]))) (hnm.1 (Or.inl rfl)) hd2 hRm) ⟨zPc_blind, hpre⟩ rfl hnl hl.1 rfl (lv_room (zRm hbl.2)) hd ⟨f1, f2⟩) hS fun H1 locs1 hI1 hS1 => ?_
        have hw := hk _ _ _ _ _ _ _ _ _ h2 hI1 hS1 hl f3 f4
        rw [hn] at hw
        exact hw
      · have hz : zrt x' = none := of_decide_eq_true hck
        have hcz : zcd x' :: zTb = Cond.code (zy x') (zby x') (zml x') none :: zTb := by unfold zcd; rw [hz]
        have h3a := List.all_eq_true.mp zMC_3 _ hq
        simp only [Bool.or_eq_true, Bool.and_eq_true, beq_iff_eq, Bool.not_eq_true', beq_eq_false_iff_ne] at h3a
        obtain ⟨h3o, h3b⟩ := h3a.resolve_left (fun q => q rfl)
        subst h3o
        have hnest : va_Nw (.methodLinkNest (zRn 11) i (zy x') RX11) s := by
          rcases h3b with ((⟨rfl, rfl⟩ | ⟨rfl, rfl⟩) | ⟨rfl, rfl⟩) | ⟨rfl, rfl⟩
          · exact hX.1.2.2.2.2.1
          · exact hX.1.2.2.2.2.2.1
          · exact hX.1.2.2.2.2.2.2.1
          · exact hX.1.2.2.2.2.2.2.2.1
        refine zCont (va_runIN (As := (st.take y').reverse.map (zc B ext)) (rest := rest.map (zc B ext)) ⟨hx, hb, hml, hown, hts⟩ hM ⟨va_cnB y' hts (zGood hgw) hcz rfl rfl hnest (hts _ (hws (.initialized (zy x').cls) (by simp [zMw]))) hd2 hRm, hnm.1 (Or.inr rfl), hts _ (hws (.instanceMethod (zy x')) (by simp [zMw]))⟩ ⟨zPc_blind, hpre⟩ rfl hnl hl.1 rfl (lv_room (zRm hbl.2)) hd ⟨f1, f2⟩) hS fun H1 locs1 hI1 hS1 => ?_
        have hw := hk _ _ _ _ _ _ _ _ _ h2 hI1 hS1 hl f3 f4
        rw [hn] at hw
        exact hw
      · have hr13 := zSub_lt hbl.1 ht13
        refine zCont (zRunSU (C := zRn s0.1) (refC := (zy x').cls) (bytes := zby x') (maxL := zml x') (ret := zrt x') (As := (st.take y').reverse.map (zc B ext)) (rest := rest.map (zc B ext)) ⟨hx, hb, hml, hown, hts⟩ hM rfl rfl hRm.1 hRm.2 (pay_in hts (zGood hgw)) List.mem_cons_self (hts _ (hws (.methodLink (zRn o) i (zy x')) (by simp [zMw]))) (hts _ (hws (.sameMethod (zy x').cls (zy x').cls (zy x').name (zy x').desc) (by simp [zMw]))) (hts _ (hws (.superclass (zRn o) (zy x').cls) (by simp [zMw]))) (fun ps pk e1 e2 => by rw [Option.some.inj (e1.symm.trans e2)]; simp [Vm.isSubclass, Vm.isSubclassAux]) (hts _ (hws (.instanceMethod (zy x')) (by simp [zMw]))) (hts _ (hws (.initialized (zy x').cls) (by simp [zMw]))) (hts _ (zcd_in h227)) (hnm.2.1 (Or.inl rfl)) (fun sig hsg => by have e := hd2.2.2; rw [hsg] at e; exact (Option.some.inj e).symm) ⟨zPc_blind, zRecv hK hI hs0 hr13, hpre⟩ rfl hnl hl.1 rfl (lv_room (zRm hbl.2)) hd ⟨f1, f2⟩) hS fun H1 locs1 hI1 hS1 => ?_
        have hw := hk _ _ _ _ _ _ _ _ _ h2 hI1 hS1 hl f3 f4
        rw [hn] at hw
        exact hw
      · have hr13 := zSub_lt hbl.1 ht13
        have h35 : (zy x').cls = RX3 := by
          have := List.all_eq_true.mp zMC_5 _ hq
          simpa using this
        refine zCont (zRunSU (C := zRn s0.1) (refC := RX4) (bytes := zby x') (maxL := zml x') (ret := zrt x') (As := (st.take y').reverse.map (zc B ext)) (rest := rest.map (zc B ext)) ⟨hx, hb, hml, hown, hts⟩ hM rfl rfl hRm.1 hRm.2 (pay_in hts (zGood hgw)) List.mem_cons_self (hts _ (hws (.methodLink (zRn o) i ⟨RX4, (zy x').name, (zy x').desc⟩) (by simp [zMw]))) (hts _ (hws (.sameMethod RX4 (zy x').cls (zy x').name (zy x').desc) (by simp [zMw]))) (hts _ (hws (.superclass (zRn o) RX4) (by simp [zMw]))) (fun ps pk e1 e2 => ?_) (hts _ (hws (.instanceMethod (zy x')) (by simp [zMw]))) (hts _ (hws (.initialized (zy x').cls) (by simp [zMw]))) (hts _ (zcd_in h227)) (hnm.2.1 (Or.inr rfl)) (fun sig hsg => by have e := hd2.2.2; rw [hsg] at e; exact (Option.some.inj e).symm) ⟨zPc_blind, zRecv hK hI hs0 hr13, hpre⟩ rfl hnl hl.1 rfl (lv_room (zRm hbl.2)) hd ⟨f1, f2⟩) hS fun H1 locs1 hI1 hS1 => ?_
        · rw [h35] at e2
          obtain ⟨pp, k4, kp, b1, b2, b3, b4, -, -, -⟩ := Cond.superclass_spec e1 (hts _ (zHas_in (i := 580) (w := .superclass RX4 RX3) (by decide +kernel)))
          obtain rfl : pk = pp := Option.some.inj (e2.symm.trans b1)
          have hsz : 0 < s.vm.classes.size := Nat.lt_of_le_of_lt (Nat.zero_le _) (Array.getElem?_eq_some_iff.mp b2).1
          obtain ⟨z, hz⟩ : ∃ z, s.vm.classes.size = z + 1 := ⟨s.vm.classes.size - 1, by omega⟩
          simp [Vm.isSubclass, Vm.isSubclassAux, hz, b2, b4]
        · have hw := hk _ _ _ _ _ _ _ _ _ h2 hI1 hS1 hl f3 f4
          rw [hn] at hw
          exact hw
    · exact h.elim

set_option maxHeartbeats 1000000 in
theorem zs_invokevirtual {n : Nat} {pc x y : Nat} {w : Int32} {t : List Nat} : zOne p l ev R s m args below meth c Q cc own nL ret init cd B D cA ext L xs d Rr μF L0 S0 (pc, .invokevirtual n, x, y, w, t) := by
  intro C hR ip ls st μ H locs lsA cells slots K Z hd hn0 ho h hI hS hl hc hs hF hFs hle hk hz
  obtain ⟨hx, hb, hml, hown, hts, hK, hX, hch, hin, hfr, hlo⟩ := C
  have hn : zPc cd (ip + 1) = pc + 3 := hn0 rfl
  have h0 := h
  simp only [zStep] at h
  split at h
  · exact zs_string ⟨hx, hb, hml, hown, hts, hK, hX, hch, hin, hfr, hlo⟩ hR ip ls st μ H locs lsA cells slots K Z hd hn0 ho h0 hI hS hl hc hs hF hFs hle hk hz
  · rename_i c9
    by_cases h99 : c9 = 99
    · subst h99
      split at h
      · rename_i r rest hdr
        cases hs0 : μ.1[r]? with
        | none => rw [hs0] at h; exact h.elim
        | some s0 =>
        rw [hs0] at h
        simp only [Option.elim_some] at h
        cases hbl : (s0.1 == 99 && Nat.ble rest.length 4) with
        | false => rw [hbl] at h; exact h.elim
        | true =>
        simp only [Bool.and_eq_true, beq_iff_eq] at hbl
        rcases hI.2.2.1 _ _ hs0 with q | q <;> omega
      · exact h.elim
    have ho := zOpkV ho h99
    simp only [Bool.and_eq_true, decide_eq_true_eq, beq_iff_eq] at ho
    obtain ⟨⟨hc13, hcw⟩, ho⟩ := ho
    split at h
    · rename_i r rest hdr
      cases hs0 : μ.1[r]? with
      | none => rw [hs0] at h; exact h.elim
      | some s0 =>
      rw [hs0] at h
      simp only [Option.elim_some] at h
      have ra := zFr hI hs0
      obtain ⟨hst, htl⟩ := zDrop hdr
      cases hbl : (s0.1 == c9 && Nat.ble rest.length 4) with
      | false => rw [hbl] at h; exact h.elim
      | true =>
      rw [hbl] at h
      simp only [Bool.and_eq_true, Nat.ble_eq] at hbl
      obtain ⟨v, μ', h1, h2⟩ := h
      obtain ⟨⟨o, i, x', y', k, is⟩, hq, he⟩ := List.any_eq_true.mp ho
      simp only [Bool.and_eq_true, beq_iff_eq, decide_eq_true_eq] at he
      obtain ⟨⟨⟨⟨rfl, rfl⟩, rfl⟩, rfl⟩, rfl⟩ := he
      obtain ⟨hws, hck⟩ := zMC_mem hq
      have hnm := zMC_nm hq
      unfold zMchk at hck
      simp only [Bool.and_eq_true, decide_eq_true_eq] at hck
      obtain ⟨⟨hna, h227⟩, hck⟩ := hck
      obtain ⟨hle1, hM⟩ := hR _ _ _ _ _ h1 h227
      obtain ⟨f1, f2, f3, f4⟩ := zFit hle1 (hle _ _ _ _ h2) hc hs hF hFs
      obtain ⟨hd2, hml2⟩ := zNc_fact h227
      have hRm := zRoomOk (R := R) hfr hlo hml2
      have hstk : (st.map (zc B ext)) = ((st.take y').reverse.map (zc B ext)).reverse ++ .ref (B + r) :: rest.map (zc B ext) := by
        rw [← List.map_reverse, List.reverse_reverse, ← zc_r (ext := ext) ra, ← List.map_cons, ← List.map_append, ← hst]
      have hnl : ((st.take y').reverse.map (zc B ext)).length = y' := by rw [List.length_map, List.length_reverse]; exact htl
      have hpre := zPreW (as := .ref r :: (st.take y').reverse) hI hK hX hS
      rw [List.map_cons, zc_r ra] at hpre
      unfold zMet at hM
      rw [List.map_cons, zc_r ra] at hM
      have hgw : ∀ w ∈ zcd x' :: zTb, w ∈ zTb := fun w h => by
        rcases List.mem_cons.mp h with h | h
        · rw [h]; exact zcd_in h227
        · exact h
      rw [hstk]
      rw [hna] at hd2
      have hr13 : s0.1 < 13 := by have := hbl.1; simp only [beq_iff_eq] at this; omega
      have hcls : (zy x').cls = zRn s0.1 := by rw [zCls h227, hcw]; have := hbl.1; simp only [beq_iff_eq] at this; rw [this]
      have hrv := zRecv hK hI hs0 hr13
      rw [← hcls] at hrv
      refine zCont (va_runV (C := (zy x').cls) (As := (st.take y').reverse.map (zc B ext)) (rest := rest.map (zc B ext)) ⟨hx, hb, hml, hown, hts⟩ hM (cwV y' hts (zGood fun w hw => ?_) rfl rfl rfl ⟨rfl, hd2⟩ hRm) ⟨zPc_blind, hrv, hpre⟩ rfl hnl hl.1 rfl (lv_room (zRm hbl.2)) hd ⟨f1, f2⟩) hS fun H1 locs1 hI1 hS1 => ?_
      · unfold wsV at hw
        rcases List.mem_append.mp hw with h | h
        · exact hws w h
        · exact hgw w h
      · have hw := hk _ _ _ _ _ _ _ _ _ h2 hI1 hS1 hl f3 f4
        rw [hn] at hw
        exact hw
    · exact h.elim
  · rename_i hte htc
    have ho := zOpkD ho hte htc
    split at h
    · rename_i r rest hdr
      cases hs0 : μ.1[r]? with
      | none => rw [hs0] at h; exact h.elim
      | some s0 =>
      rw [hs0] at h
      simp only [Option.elim_some] at h
      have ra := zFr hI hs0
      obtain ⟨hst, htl⟩ := zDrop hdr
      cases hbl : (zSub s0.1 3 && Nat.ble rest.length 4) with
      | false => rw [hbl] at h; exact h.elim
      | true =>
      rw [hbl] at h
      simp only [Bool.and_eq_true, Nat.ble_eq] at hbl
      obtain ⟨v, μ', h1, h2⟩ := h
      obtain ⟨⟨o, i, x', y', k, is⟩, hq, he⟩ := List.any_eq_true.mp ho
      simp only [Bool.and_eq_true, beq_iff_eq, decide_eq_true_eq] at he
      obtain ⟨⟨⟨⟨rfl, rfl⟩, rfl⟩, rfl⟩, rfl⟩ := he
      obtain ⟨hws, hck⟩ := zMC_mem hq
      have hnm := zMC_nm hq
      unfold zMchk at hck
      simp only [Bool.and_eq_true, decide_eq_true_eq] at hck
      obtain ⟨⟨hna, h227⟩, hck⟩ := hck
      have hci : s0.1 ∈ [0, 2, 3, 4, 5, 10] := by
        have := hbl.1
        unfold zSub at this
        simp at this
        simp
        omega
      have hr13 := zSub_lt hbl.1 (by decide)
      have hck := List.all_eq_true.mp hck _ hci
      rw [Bool.and_eq_true, decide_eq_true_eq, decide_eq_true_eq] at hck
      obtain ⟨hna2, h227b⟩ := hck
      obtain ⟨hd1, -⟩ := zNc_fact h227
      rw [hna] at hd1
      obtain ⟨hn1, hn2⟩ := hnm.2.2 rfl _ hci
      obtain ⟨hle1, hM⟩ := hR _ _ _ _ _ h1 h227b
      obtain ⟨f1, f2, f3, f4⟩ := zFit hle1 (hle _ _ _ _ h2) hc hs hF hFs
      obtain ⟨hd2, hml2⟩ := zNc_fact h227b
      have hRm := zRoomOk (R := R) hfr hlo hml2
      have hstk : (st.map (zc B ext)) = ((st.take y').reverse.map (zc B ext)).reverse ++ .ref (B + r) :: rest.map (zc B ext) := by
        rw [← List.map_reverse, List.reverse_reverse, ← zc_r (ext := ext) ra, ← List.map_cons, ← List.map_append, ← hst]
      have hnl : ((st.take y').reverse.map (zc B ext)).length = y' := by rw [List.length_map, List.length_reverse]; exact htl
      have hpre := zPreW (as := .ref r :: (st.take y').reverse) hI hK hX hS
      rw [List.map_cons, zc_r ra] at hpre
      unfold zMet at hM
      rw [List.map_cons, zc_r ra] at hM
      have hgw : ∀ w ∈ zcd (zDyn x' s0.1) :: zTb, w ∈ zTb := fun w h => by
        rcases List.mem_cons.mp h with h | h
        · rw [h]; exact zcd_in h227b
        · exact h
      rw [hstk]
      have hwd : ∀ w ∈ [Cond.selects (zRn s0.1) (zy x') (zy (zDyn x' s0.1)), .instanceMethod (zy (zDyn x' s0.1)), .initialized (zy (zDyn x' s0.1)).cls], w ∈ zTb := fun w hw => hws w (by
        unfold zMw
        exact List.mem_append_right _ (List.mem_flatMap.mpr ⟨_, hci, hw⟩))
      have hdc : va_Decl s (zy x') := va_Decl.of (hts _ (hws (.instanceMethod (zy x')) (by simp [zMw]))) (hts _ (zcd_in h227))
      refine zCont (va_runU (C := zRn s0.1) (owner := (zy x').cls) (x := zy x') (y := zy (zDyn x' s0.1)) (bytes := zby (zDyn x' s0.1)) (maxL := zml (zDyn x' s0.1)) (ret := zrt (zDyn x' s0.1)) (n := y') (As := (st.take y').reverse.map (zc B ext)) (rest := rest.map (zc B ext)) ⟨hx, hb, hml, hown, hts⟩ hM ⟨⟨rfl, rfl, hRm.1, hRm.2, pay_in hts (zGood hgw), List.mem_cons_self⟩, hts _ (zcd_in h227b), hts _ (hwd _ (by simp)), ⟨hd1.1, hd1.2.1⟩, fun sig hsg => (by have e := hd1.2.2; rw [hsg] at e; exact (Option.some.inj e).symm), hts _ (hws (.methodLink (zRn o) i (zy x')) (by simp [zMw])), hts _ (hws (.sameMethod (zy x').cls (zy x').cls (zy x').name (zy x').desc) (by simp [zMw])), hdc, hts _ (hwd (.selects (zRn s0.1) (zy x') (zy (zDyn x' s0.1))) (by simp)), hts _ (hwd (.instanceMethod (zy (zDyn x' s0.1))) (by simp))⟩ ⟨zPc_blind, zRecv hK hI hs0 hr13, hpre⟩ rfl hnl hl.1 rfl (lv_room (zRm hbl.2)) hd ⟨f1, f2⟩) hS fun H1 locs1 hI1 hS1 => ?_
      have hw := hk _ _ _ _ _ _ _ _ _ h2 hI1 hS1 hl f3 f4
      rw [hn] at hw
      exact hw
    · exact h.elim

end ZS
