/-! ONE STEP of the machine is a stretch of the bytecode -/
def zLenS : List Nat := [43, 62]
noncomputable def zBytS : List (List Int32) := [(zStr 0).map Int32.ofNat, (zStr 1).map Int32.ofNat]
noncomputable def zXt (B : Nat) (ext : Nat → Nat) (L : Nat) (xs : Nat → Int32) (U : State) : Prop :=
  (va_AO RX3 U ∧ va_AO RX8 U ∧ va_AO RX6 U ∧ va_AOA .int U ∧ va_Nw (.methodLinkNest RX11 9 yX1_init RX11) U ∧ va_Nw (.methodLinkNest RX11 41 yX7_init RX11) U ∧ va_Nw (.methodLinkNest RX11 54 yX9_init RX11) U ∧ va_Nw (.methodLinkNest RX11 81 yX6_init RX11) U ∧ ∀ a b, a < 13 → b < 13 → zSub a b = true → a ≠ b → va_Nw (.castable (zRn a) (zRn b)) U) ∧ (∀ ci k, zSub ci 3 = true → zSub k 3 = true → zSub ci k = false → va_Nc (zRn ci) (zRn k) U) ∧
  vk_R RX11 82 "worth told ; costs far ; storm height * 2 ;" (ext 1000000) U ∧ vk_R RX7 80 "worth costs storm or and not told height more far tide number " (ext 1000001) U ∧
  va_X (ext 2000000) L xs U U.heap ∧ ext 2000000 < B ∧ L < 2 ^ 31 ∧ B ≤ U.heap.size ∧ ∃ adV : Nat → Nat, vk_S 2 zLenS zBytS (fun i => ext (1000000 + i)) adV (fun q => B ≤ q) U U.heap ∧ va_Z "java/lang/String" "COMPACT_STRINGS" "Z" (.int 1) (fun q => B ≤ q) U U.heap ∧ va_Zq "jdk/internal/util/Preconditions" "SIOOBE_FORMATTER" "Ljava/util/function/BiFunction;" (fun q => B ≤ q) U U.heap
def zRetOk (ins : Instr) (v : Option Value) (ret : Option FieldType) : Prop :=
  (ins = .ireturn ∧ ∃ a, v = some (.int a) ∧ (ret = some .int ∨ (ret = some .boolean ∧ (a = 0 ∨ a = 1)))) ∨ (ins = .lreturn ∧ ret = some .long ∧ ∃ a, v = some (.long a)) ∨
  (ins = .areturn ∧ (∃ r, ret = some r ∧ refKind r = true) ∧ ((∃ a, v = some (.ref a)) ∨ v = some .null)) ∨ (ins = .return_ ∧ v = none ∧ ret = none)
/-- what holds at a method's entry in the machine's words -/
def zWd (B : Nat) (D : va_G) (cA : Nat → ClassId) (ext : Nat → Nat) (L : Nat) (xs : Nat → Int32) (μ : zM) (U : State) : Prop := zIv B D cA L xs μ U.heap ∧ va_K D vwCl (zTys cA) U ∧ zXt B ext L xs U
def zQ (B : Nat) (D : va_G) (cA : Nat → ClassId) (ext : Nat → Nat) (L : Nat) (xs : Nat → Int32) (v : Option Value) (μ' : zM) : Array Value → State → Outcome → State → Prop := fun _ st o t => o = .returned (v.map (zc B ext)) ∧ zIv B D cA L xs μ' t.heap ∧ va_F (fun q => B ≤ q) st t
noncomputable def zMet (l : Launch) (B : Nat) (D : va_G) (cA : Nat → ClassId) (ext : Nat → Nat) (L : Nat) (xs : Nat → Int32) (d x : Nat) (as : List Value) (μ : zM) (v : Option Value) (μ' : zM) : Prop :=
  Met l (zy x) (zcd x :: zTb) { frames := d + 10, cells := μ'.1.length - μ.1.length, slots := zSl μ' - zSl μ, locals := 64 * d + 1000 } (va_Pc (as.map (zc B ext)) (zWd B D cA ext L xs μ)) (zQ B D cA ext L xs v μ') (μ'.1.length - μ.1.length) (zSl μ' - zSl μ) (fun q => B ≤ q)
def zCtx (p : Program) (R : Room) (s : State) (m : MethodId) (args : Array Value) (meth : Method) (c : Code) (cc : ByteArray) (own nL : Nat) (ret : Option FieldType) (init : Bool) (cd : List zE) (B : Nat) (D : va_G) (cA : Nat → ClassId) (ext : Nat → Nat) (L : Nat) (xs : Nat → Int32) (d : Nat) : Prop :=
  p.tables.exec = Jvm.exec ∧ c.code = cc ∧ c.maxLocals = nL ∧ s.vm.findClass (zRn own) = some m.cls ∧ (∀ w ∈ zTb, w.before args s = true) ∧ va_K D vwCl (zTys cA) s ∧ zXt B ext L xs s ∧ zAll cc own nL ret init cd ∧ (init = true → meth.name = "<init>") ∧ d + 11 ≤ R.frames ∧ 64 * d + 1064 ≤ R.locals
theorem zG_lv {B : Nat} {ext : Nat → Nat} {ls : zL} {lsA : Array Slot} {nL k : Nat} {v : Value} (hl : lv_has lsA nL (ls.map fun q => (q.1, zc B ext q.2))) (h : zG ls k = some v) : lsA[k]? = some (.val (zc B ext v)) ∧ (k, v) ∈ ls := by
  unfold zG at h
  cases hf : ls.find? (fun q => q.1 == k) with
  | none => rw [hf] at h; cases h
  | some q =>
    rw [hf] at h
    obtain ⟨a, b⟩ := q
    have hb : b = v := Option.some.inj h
    have ha : a = k := by
      have := List.find?_some hf
      simpa using this
    subst hb; subst ha
    have hm := List.mem_of_find?_eq_some hf
    exact ⟨hl.2.2 (a, zc B ext b) (List.mem_map.mpr ⟨(a, b), hm, rfl⟩), hm⟩
theorem zPut_mem {ls : zL} {i : Nat} {v : Value} {q : Nat × Value} (h : q ∈ zPut ls i v) : q = (i, v) ∨ (q ∈ ls ∧ q.1 ≠ i) := by
  unfold zPut at h
  cases hb : ls.any (fun q => q.1 == i) with
  | true =>
    rw [hb] at h
    obtain ⟨a, ha, rfl⟩ := List.mem_map.mp h
    cases hq : a.1 == i with
    | true => exact Or.inl (by simp)
    | false => exact Or.inr ⟨by simpa using ha, by simpa using hq⟩
  | false =>
    rw [hb] at h
    rcases List.mem_append.mp h with h | h
    · refine Or.inr ⟨h, fun e => ?_⟩
      have := List.any_eq_false.mp hb q h
      simp [e] at this
    · exact Or.inl (by simpa using h)
theorem zCut_mem {B : Nat} {ext : Nat → Nat} {ls : zL} {lsA : Array Slot} {nL i : Nat} {q : Nat × Value} (hl : lv_has lsA nL (ls.map fun q => (q.1, zc B ext q.2))) (h : q ∈ zCut ls i) : q ∈ ls ∧ ¬ (q.1 + 1 = i ∧ q.2.category = 2) := by
  unfold zCut at h
  split at h
  · exact ⟨h, fun e => by omega⟩
  · rename_i j
    have key : ∀ v, zG ls j = some v → q ∈ ls → q.1 = j → v.category = q.2.category := by
      intro v hv hq e
      have h1 := (zG_lv hl hv).1
      have h2 := hl.2.2 (q.1, zc B ext q.2) (List.mem_map.mpr ⟨q, hq, rfl⟩)
      have h2 : lsA[q.1]? = some (.val (zc B ext q.2)) := h2
      rw [e, h1] at h2
      have h3 : zc B ext v = zc B ext q.2 := by injection (Option.some.inj h2)
      rw [← zc_cat (B := B) (ext := ext) v, h3, zc_cat]
    split at h
    · rename_i v hg
      cases hc : v.category == 2 with
      | true =>
        rw [hc] at h
        obtain ⟨h1, h2⟩ := List.mem_filter.mp h
        exact ⟨h1, fun e => by simp at h2; omega⟩
      | false =>
        rw [hc] at h
        have h : q ∈ ls := h
        refine ⟨h, fun e => ?_⟩
        have := key v hg h (by omega)
        rw [e.2] at this
        simp [this] at hc
    · rename_i hg
      refine ⟨h, fun e => ?_⟩
      unfold zG at hg
      rw [Option.map_eq_none_iff] at hg
      have := List.find?_eq_none.mp hg q h
      simp at this
      omega
theorem zS1_lv {B : Nat} {ext : Nat → Nat} {ls : zL} {lsA ls' : Array Slot} {nL i : Nat} {v : Value} (hl : lv_has lsA nL (ls.map fun q => (q.1, zc B ext q.2))) (h : lv_has ls' nL ((i, zc B ext v) :: (ls.map fun q => (q.1, zc B ext q.2)).filter (fun q => !(q.1 == i) && !(q.1 + 1 == i && q.2.category == 2)))) : lv_has ls' nL ((zS1 ls i v).map fun q => (q.1, zc B ext q.2)) := by
  refine ⟨h.1, h.2.1, fun q hq => h.2.2 q ?_⟩
  obtain ⟨a, ha, rfl⟩ := List.mem_map.mp hq
  rcases zPut_mem ha with rfl | ⟨h1, h2⟩
  · exact List.mem_cons_self
  · obtain ⟨h3, h4⟩ := zCut_mem hl h1
    refine List.mem_cons_of_mem _ (List.mem_filter.mpr ⟨List.mem_map.mpr ⟨a, h3, rfl⟩, ?_⟩)
    simp only [zc_cat, Bool.and_eq_true, Bool.not_eq_true', beq_eq_false_iff_ne, Bool.and_eq_false_iff, ne_eq]
    refine ⟨h2, ?_⟩
    rcases Classical.em (a.1 + 1 = i) with e | e
    · exact Or.inr fun e2 => h4 ⟨e, e2⟩
    · exact Or.inl e
theorem zS2_lv {B : Nat} {ext : Nat → Nat} {ls : zL} {lsA ls' : Array Slot} {nL i : Nat} {v : Value} (hl : lv_has lsA nL (ls.map fun q => (q.1, zc B ext q.2))) (h : lv_has ls' nL ((i, zc B ext v) :: (ls.map fun q => (q.1, zc B ext q.2)).filter (fun q => !(q.1 == i) && (!(q.1 == i + 1) && !(q.1 + 1 == i && q.2.category == 2))))) : lv_has ls' nL ((zS2 ls i v).map fun q => (q.1, zc B ext q.2)) := by
  refine ⟨h.1, h.2.1, fun q hq => h.2.2 q ?_⟩
  obtain ⟨a, ha, rfl⟩ := List.mem_map.mp hq
  rcases zPut_mem ha with rfl | ⟨h1, h2⟩
  · exact List.mem_cons_self
  · obtain ⟨h1, h5⟩ := List.mem_filter.mp h1
    obtain ⟨h3, h4⟩ := zCut_mem hl h1
    refine List.mem_cons_of_mem _ (List.mem_filter.mpr ⟨List.mem_map.mpr ⟨a, h3, rfl⟩, ?_⟩)
    simp only [zc_cat, Bool.and_eq_true, Bool.not_eq_true', beq_eq_false_iff_ne, Bool.and_eq_false_iff, ne_eq] at h5 ⊢
    refine ⟨h2, h5, ?_⟩
    rcases Classical.em (a.1 + 1 = i) with e | e
    · exact Or.inr fun e2 => h4 ⟨e, e2⟩
    · exact Or.inl e
section ZS
variable {p : Program} {l : Launch} {ev : Env} {R : Room} {s : State} {m : MethodId} {args : Array Value} {below : List Frame} {meth : Method} {c : Code} {Q : State → Prop}
variable {cc : ByteArray} {own nL : Nat} {ret : Option FieldType} {init : Bool} {cd : List zE} {B : Nat} {D : va_G} {cA : Nat → ClassId} {ext : Nat → Nat} {L : Nat} {xs : Nat → Int32} {d : Nat} {Rr : zOr}
variable {ip : Nat} {ls : zL} {st : List Value} {μ : zM} {H : Heap} {locs : List Loc} {lsA : Array Slot} {cells slots : Nat} {K : Nat → zL → List Value → zM → Prop} {Z : Option Value → zM → Prop} {L0 S0 : Nat} {μF : zM}
/-- what is known behind a step -/
def zKk (p : Program) (l : Launch) (ev : Env) (R : Room) (s : State) (m : MethodId) (args : Array Value) (below : List Frame) (meth : Method) (c : Code) (Q : State → Prop) (nL : Nat) (cd : List zE) (B : Nat) (D : va_G) (cA : Nat → ClassId) (ext : Nat → Nat) (L : Nat) (xs : Nat → Int32) (K : Nat → zL → List Value → zM → Prop) (L0 S0 : Nat) : Prop :=
  ∀ (ip : Nat) (ls : zL) (st : List Value) (μ1 : zM) (H : Heap) (locs : List Loc) (lsA : Array Slot) (cells slots : Nat), K ip ls st μ1 → zIv B D cA L xs μ1 H → va_S (fun q => B ≤ q) s.heap H locs → lv_has lsA nL (ls.map fun q => (q.1, zc B ext q.2)) → L0 + cells = μ1.1.length → S0 + slots = zSl μ1 →
    W p l ev R s m args below meth c H locs cells slots Q (F0 m (zPc cd ip) lsA (st.map (zc B ext)))
def zHz (p : Program) (l : Launch) (ev : Env) (R : Room) (s : State) (m : MethodId) (args : Array Value) (below : List Frame) (meth : Method) (c : Code) (Q : State → Prop) (cc : ByteArray) (ret : Option FieldType) (B : Nat) (ext : Nat → Nat) (μ : zM) (H : Heap) (locs : List Loc) (cells slots : Nat) (Z : Option Value → zM → Prop) : Prop :=
  ∀ (v : Option Value) (ins : Instr) (pc : Nat) (lsA : Array Slot), Z v μ → decode cc pc = .ok (ins, 1) → zRetOk ins v ret → W p l ev R s m args below meth c H locs cells slots Q (F0 m pc lsA (v.toList.map (zc B ext)))
/-- a step's own row -/
def zOne (p : Program) (l : Launch) (ev : Env) (R : Room) (s : State) (m : MethodId) (args : Array Value) (below : List Frame) (meth : Method) (c : Code) (Q : State → Prop) (cc : ByteArray) (own nL : Nat) (ret : Option FieldType) (init : Bool) (cd : List zE) (B : Nat) (D : va_G) (cA : Nat → ClassId) (ext : Nat → Nat) (L : Nat) (xs : Nat → Int32) (d : Nat) (Rr : zOr) (μF : zM) (L0 S0 : Nat) (e : zE) : Prop :=
  zCtx p R s m args meth c cc own nL ret init cd B D cA ext L xs d → (∀ x as μ v μ', Rr x as μ v μ' → x < 227 → zLe μ μ' ∧ zMet l B D cA ext L xs d x as μ v μ') →
  ∀ (ip : Nat) (ls : zL) (st : List Value) (μ : zM) (H : Heap) (locs : List Loc) (lsA : Array Slot) (cells slots : Nat) (K : Nat → zL → List Value → zM → Prop) (Z : Option Value → zM → Prop),
  decode cc e.1 = .ok (e.2.1, zLen e) → (zFalls e.2.1 = true → zPc cd (ip + 1) = e.1 + zLen e) → zOpk own nL ret init cd e = true →
  zStep zDyn Rr e ip ls st μ K Z → zIv B D cA L xs μ H → va_S (fun q => B ≤ q) s.heap H locs → lv_has lsA nL (ls.map fun q => (q.1, zc B ext q.2)) → L0 + cells = μ.1.length → S0 + slots = zSl μ → μF.1.length ≤ L0 + R.cells → zSl μF ≤ S0 + R.slots →
  (∀ ip ls st μ1, K ip ls st μ1 → zLe μ1 μF) → zKk p l ev R s m args below meth c Q nL cd B D cA ext L xs K L0 S0 → zHz p l ev R s m args below meth c Q cc ret B ext μ H locs cells slots Z →
  W p l ev R s m args below meth c H locs cells slots Q (F0 m e.1 lsA (st.map (zc B ext)))

set_option maxHeartbeats 1000000 in
theorem zs_iconst {n : Int} {pc x y : Nat} {w : Int32} {t : List Nat} : zOne p l ev R s m args below meth c Q cc own nL ret init cd B D cA ext L xs d Rr μF L0 S0 (pc, .iconst n, x, y, w, t) := by
  intro C hR ip ls st μ H locs lsA cells slots K Z hd hn0 ho h hI hS hl hc hs hF hFs hle hk hz
  obtain ⟨hx, hb, hml, hown, hts, hK, hX, hch, hin, hfr, hlo⟩ := C
  have hn : zPc cd (ip + 1) = pc + 1 := hn0 rfl
  have ho := of_decide_eq_true ho
  refine lv_iconst hx hb hd ho ?_
  have hw := hk _ _ _ _ _ _ _ _ _ h hI hS hl hc hs
  rw [hn] at hw
  exact hw

set_option maxHeartbeats 1000000 in
theorem zs_bipush {n : Int} {pc x y : Nat} {w : Int32} {t : List Nat} : zOne p l ev R s m args below meth c Q cc own nL ret init cd B D cA ext L xs d Rr μF L0 S0 (pc, .bipush n, x, y, w, t) := by
  intro C hR ip ls st μ H locs lsA cells slots K Z hd hn0 ho h hI hS hl hc hs hF hFs hle hk hz
  obtain ⟨hx, hb, hml, hown, hts, hK, hX, hch, hin, hfr, hlo⟩ := C
  have hn : zPc cd (ip + 1) = pc + 2 := hn0 rfl
  have ho := of_decide_eq_true ho
  refine lv_bipush hx hb hd ho ?_
  have hw := hk _ _ _ _ _ _ _ _ _ h hI hS hl hc hs
  rw [hn] at hw
  exact hw

set_option maxHeartbeats 1000000 in
theorem zs_sipush {n : Int} {pc x y : Nat} {w : Int32} {t : List Nat} : zOne p l ev R s m args below meth c Q cc own nL ret init cd B D cA ext L xs d Rr μF L0 S0 (pc, .sipush n, x, y, w, t) := by
  intro C hR ip ls st μ H locs lsA cells slots K Z hd hn0 ho h hI hS hl hc hs hF hFs hle hk hz
  obtain ⟨hx, hb, hml, hown, hts, hK, hX, hch, hin, hfr, hlo⟩ := C
  have hn : zPc cd (ip + 1) = pc + 3 := hn0 rfl
  have ho := of_decide_eq_true ho
  refine lv_sipush hx hb hd ho ?_
  have hw := hk _ _ _ _ _ _ _ _ _ h hI hS hl hc hs
  rw [hn] at hw
  exact hw

set_option maxHeartbeats 1000000 in
theorem zs_null {pc x y : Nat} {w : Int32} {t : List Nat} : zOne p l ev R s m args below meth c Q cc own nL ret init cd B D cA ext L xs d Rr μF L0 S0 (pc, .aconst_null, x, y, w, t) := by
  intro C hR ip ls st μ H locs lsA cells slots K Z hd hn0 ho h hI hS hl hc hs hF hFs hle hk hz
  obtain ⟨hx, hb, hml, hown, hts, hK, hX, hch, hin, hfr, hlo⟩ := C
  have hn : zPc cd (ip + 1) = pc + 1 := hn0 rfl
  refine lv_null hx hb hd ?_
  have hw := hk _ _ _ _ _ _ _ _ _ h hI hS hl hc hs
  rw [hn] at hw
  exact hw

set_option maxHeartbeats 1000000 in
theorem zs_iload_n {k : Fin 4} {pc x y : Nat} {w : Int32} {t : List Nat} : zOne p l ev R s m args below meth c Q cc own nL ret init cd B D cA ext L xs d Rr μF L0 S0 (pc, .iload_n k, x, y, w, t) := by
  intro C hR ip ls st μ H locs lsA cells slots K Z hd hn0 ho h hI hS hl hc hs hF hFs hle hk hz
  obtain ⟨hx, hb, hml, hown, hts, hK, hX, hch, hin, hfr, hlo⟩ := C
  have hn : zPc cd (ip + 1) = pc + 1 := hn0 rfl
  have ho : k.val = x := by simpa [zOpk] using ho
  simp only [zStep] at h
  split at h
  · rename_i a hg
    refine lv_iload_n hx hb hd ho (zG_lv hl hg).1 ?_
    have hw := hk _ _ _ _ _ _ _ _ _ h hI hS hl hc hs
    rw [hn] at hw
    exact hw
  · exact h.elim

set_option maxHeartbeats 1000000 in
theorem zs_iload {k : Nat} {pc x y : Nat} {w : Int32} {t : List Nat} : zOne p l ev R s m args below meth c Q cc own nL ret init cd B D cA ext L xs d Rr μF L0 S0 (pc, .iload k, x, y, w, t) := by
  intro C hR ip ls st μ H locs lsA cells slots K Z hd hn0 ho h hI hS hl hc hs hF hFs hle hk hz
  obtain ⟨hx, hb, hml, hown, hts, hK, hX, hch, hin, hfr, hlo⟩ := C
  have hn : zPc cd (ip + 1) = pc + 2 := hn0 rfl
  have ho : k = x := by simpa [zOpk] using ho
  subst ho
  simp only [zStep] at h
  split at h
  · rename_i a hg
    refine lv_iload hx hb hd (zG_lv hl hg).1 ?_
    have hw := hk _ _ _ _ _ _ _ _ _ h hI hS hl hc hs
    rw [hn] at hw
    exact hw
  · exact h.elim

set_option maxHeartbeats 1000000 in
theorem zs_lload_n {k : Fin 4} {pc x y : Nat} {w : Int32} {t : List Nat} : zOne p l ev R s m args below meth c Q cc own nL ret init cd B D cA ext L xs d Rr μF L0 S0 (pc, .lload_n k, x, y, w, t) := by
  intro C hR ip ls st μ H locs lsA cells slots K Z hd hn0 ho h hI hS hl hc hs hF hFs hle hk hz
  obtain ⟨hx, hb, hml, hown, hts, hK, hX, hch, hin, hfr, hlo⟩ := C
  have hn : zPc cd (ip + 1) = pc + 1 := hn0 rfl
  have ho : k.val = x := by simpa [zOpk] using ho
  simp only [zStep] at h
  split at h
  · rename_i a hg
    refine lv_lload_n hx hb hd ho (zG_lv hl hg).1 ?_
    have hw := hk _ _ _ _ _ _ _ _ _ h hI hS hl hc hs
    rw [hn] at hw
    exact hw
  · exact h.elim

set_option maxHeartbeats 1000000 in
theorem zs_lload {k : Nat} {pc x y : Nat} {w : Int32} {t : List Nat} : zOne p l ev R s m args below meth c Q cc own nL ret init cd B D cA ext L xs d Rr μF L0 S0 (pc, .lload k, x, y, w, t) := by
  intro C hR ip ls st μ H locs lsA cells slots K Z hd hn0 ho h hI hS hl hc hs hF hFs hle hk hz
  obtain ⟨hx, hb, hml, hown, hts, hK, hX, hch, hin, hfr, hlo⟩ := C
  have hn : zPc cd (ip + 1) = pc + 2 := hn0 rfl
  have ho : k = x := by simpa [zOpk] using ho
  subst ho
  simp only [zStep] at h
  split at h
  · rename_i a hg
    refine lv_lload hx hb hd (zG_lv hl hg).1 ?_
    have hw := hk _ _ _ _ _ _ _ _ _ h hI hS hl hc hs
    rw [hn] at hw
    exact hw
  · exact h.elim

set_option maxHeartbeats 1000000 in
theorem zs_aload_n {k : Fin 4} {pc x y : Nat} {w : Int32} {t : List Nat} : zOne p l ev R s m args below meth c Q cc own nL ret init cd B D cA ext L xs d Rr μF L0 S0 (pc, .aload_n k, x, y, w, t) := by
  intro C hR ip ls st μ H locs lsA cells slots K Z hd hn0 ho h hI hS hl hc hs hF hFs hle hk hz
  obtain ⟨hx, hb, hml, hown, hts, hK, hX, hch, hin, hfr, hlo⟩ := C
  have hn : zPc cd (ip + 1) = pc + 1 := hn0 rfl
  have ho : k.val = x := by simpa [zOpk] using ho
  simp only [zStep] at h
  split at h
  · rename_i a hg
    refine lv_aload_n hx hb hd ho (zG_lv hl hg).1 ?_
    have hw := hk _ _ _ _ _ _ _ _ _ h hI hS hl hc hs
    rw [hn] at hw
    exact hw
  · rename_i hg
    refine lv_aload_nN hx hb hd ho (zG_lv hl hg).1 ?_
    have hw := hk _ _ _ _ _ _ _ _ _ h hI hS hl hc hs
    rw [hn] at hw
    exact hw
  · exact h.elim

set_option maxHeartbeats 1000000 in
theorem zs_aload {k : Nat} {pc x y : Nat} {w : Int32} {t : List Nat} : zOne p l ev R s m args below meth c Q cc own nL ret init cd B D cA ext L xs d Rr μF L0 S0 (pc, .aload k, x, y, w, t) := by
  intro C hR ip ls st μ H locs lsA cells slots K Z hd hn0 ho h hI hS hl hc hs hF hFs hle hk hz
  obtain ⟨hx, hb, hml, hown, hts, hK, hX, hch, hin, hfr, hlo⟩ := C
  have hn : zPc cd (ip + 1) = pc + 2 := hn0 rfl
  have ho : k = x := by simpa [zOpk] using ho
  subst ho
  simp only [zStep] at h
  split at h
  · rename_i a hg
    refine lv_aload hx hb hd (zG_lv hl hg).1 ?_
    have hw := hk _ _ _ _ _ _ _ _ _ h hI hS hl hc hs
    rw [hn] at hw
    exact hw
  · rename_i hg
    refine lv_aloadN hx hb hd (zG_lv hl hg).1 ?_
    have hw := hk _ _ _ _ _ _ _ _ _ h hI hS hl hc hs
    rw [hn] at hw
    exact hw
  · exact h.elim

set_option maxHeartbeats 1000000 in
theorem zs_istore_n {k : Fin 4} {pc x y : Nat} {w : Int32} {t : List Nat} : zOne p l ev R s m args below meth c Q cc own nL ret init cd B D cA ext L xs d Rr μF L0 S0 (pc, .istore_n k, x, y, w, t) := by
  intro C hR ip ls st μ H locs lsA cells slots K Z hd hn0 ho h hI hS hl hc hs hF hFs hle hk hz
  obtain ⟨hx, hb, hml, hown, hts, hK, hX, hch, hin, hfr, hlo⟩ := C
  have hn : zPc cd (ip + 1) = pc + 1 := hn0 rfl
  have ho : k.val = x ∧ x < nL := by simpa [zOpk] using ho
  simp only [zStep] at h
  split at h
  · rename_i a st
    refine lv_istore_n hx hb hd ho.1 hl ho.2 rfl (fun ls' hl' => ?_)
    have hw := hk _ _ _ _ _ _ _ _ _ h hI hS (zS1_lv (v := .int a) hl hl') hc hs
    rw [hn] at hw
    exact hw
  · exact h.elim

set_option maxHeartbeats 1000000 in
theorem zs_istore {k : Nat} {pc x y : Nat} {w : Int32} {t : List Nat} : zOne p l ev R s m args below meth c Q cc own nL ret init cd B D cA ext L xs d Rr μF L0 S0 (pc, .istore k, x, y, w, t) := by
  intro C hR ip ls st μ H locs lsA cells slots K Z hd hn0 ho h hI hS hl hc hs hF hFs hle hk hz
  obtain ⟨hx, hb, hml, hown, hts, hK, hX, hch, hin, hfr, hlo⟩ := C
  have hn : zPc cd (ip + 1) = pc + 2 := hn0 rfl
  have ho : k = x ∧ x < nL := by simpa [zOpk] using ho
  obtain ⟨rfl, ho⟩ := ho
  simp only [zStep] at h
  split at h
  · rename_i a st
    refine lv_istore hx hb hd  hl ho rfl (fun ls' hl' => ?_)
    have hw := hk _ _ _ _ _ _ _ _ _ h hI hS (zS1_lv (v := .int a) hl hl') hc hs
    rw [hn] at hw
    exact hw
  · exact h.elim

set_option maxHeartbeats 1000000 in
theorem zs_lstore_n {k : Fin 4} {pc x y : Nat} {w : Int32} {t : List Nat} : zOne p l ev R s m args below meth c Q cc own nL ret init cd B D cA ext L xs d Rr μF L0 S0 (pc, .lstore_n k, x, y, w, t) := by
  intro C hR ip ls st μ H locs lsA cells slots K Z hd hn0 ho h hI hS hl hc hs hF hFs hle hk hz
  obtain ⟨hx, hb, hml, hown, hts, hK, hX, hch, hin, hfr, hlo⟩ := C
  have hn : zPc cd (ip + 1) = pc + 1 := hn0 rfl
  have ho : k.val = x ∧ x + 1 < nL := by simpa [zOpk] using ho
  simp only [zStep] at h
  split at h
  · rename_i a st
    refine lv_lstore_n hx hb hd ho.1 hl ho.2 rfl (fun ls' hl' => ?_)
    have hw := hk _ _ _ _ _ _ _ _ _ h hI hS (zS2_lv (v := .long a) hl hl') hc hs
    rw [hn] at hw
    exact hw
  · exact h.elim

set_option maxHeartbeats 1000000 in
theorem zs_lstore {k : Nat} {pc x y : Nat} {w : Int32} {t : List Nat} : zOne p l ev R s m args below meth c Q cc own nL ret init cd B D cA ext L xs d Rr μF L0 S0 (pc, .lstore k, x, y, w, t) := by
  intro C hR ip ls st μ H locs lsA cells slots K Z hd hn0 ho h hI hS hl hc hs hF hFs hle hk hz
  obtain ⟨hx, hb, hml, hown, hts, hK, hX, hch, hin, hfr, hlo⟩ := C
  have hn : zPc cd (ip + 1) = pc + 2 := hn0 rfl
  have ho : k = x ∧ x + 1 < nL := by simpa [zOpk] using ho
  obtain ⟨rfl, ho⟩ := ho
  simp only [zStep] at h
  split at h
  · rename_i a st
    refine lv_lstore hx hb hd  hl ho rfl (fun ls' hl' => ?_)
    have hw := hk _ _ _ _ _ _ _ _ _ h hI hS (zS2_lv (v := .long a) hl hl') hc hs
    rw [hn] at hw
    exact hw
  · exact h.elim

set_option maxHeartbeats 1000000 in
theorem zs_astore_n {k : Fin 4} {pc x y : Nat} {w : Int32} {t : List Nat} : zOne p l ev R s m args below meth c Q cc own nL ret init cd B D cA ext L xs d Rr μF L0 S0 (pc, .astore_n k, x, y, w, t) := by
  intro C hR ip ls st μ H locs lsA cells slots K Z hd hn0 ho h hI hS hl hc hs hF hFs hle hk hz
  obtain ⟨hx, hb, hml, hown, hts, hK, hX, hch, hin, hfr, hlo⟩ := C
  have hn : zPc cd (ip + 1) = pc + 1 := hn0 rfl
  have ho : k.val = x ∧ x < nL := by simpa [zOpk] using ho
  simp only [zStep] at h
  split at h
  · rename_i a st
    refine lv_astore_n hx hb hd ho.1 hl ho.2 rfl (fun ls' hl' => ?_)
    have hw := hk _ _ _ _ _ _ _ _ _ h hI hS (zS1_lv (v := .ref a) hl hl') hc hs
    rw [hn] at hw
    exact hw
  · rename_i st
    refine lv_astore_nN hx hb hd ho.1 hl ho.2 rfl (fun ls' hl' => ?_)
    have hw := hk _ _ _ _ _ _ _ _ _ h hI hS (zS1_lv (v := .null) hl hl') hc hs
    rw [hn] at hw
    exact hw
  · exact h.elim

set_option maxHeartbeats 1000000 in
theorem zs_astore {k : Nat} {pc x y : Nat} {w : Int32} {t : List Nat} : zOne p l ev R s m args below meth c Q cc own nL ret init cd B D cA ext L xs d Rr μF L0 S0 (pc, .astore k, x, y, w, t) := by
  intro C hR ip ls st μ H locs lsA cells slots K Z hd hn0 ho h hI hS hl hc hs hF hFs hle hk hz
  obtain ⟨hx, hb, hml, hown, hts, hK, hX, hch, hin, hfr, hlo⟩ := C
  have hn : zPc cd (ip + 1) = pc + 2 := hn0 rfl
  have ho : k = x ∧ x < nL := by simpa [zOpk] using ho
  obtain ⟨rfl, ho⟩ := ho
  simp only [zStep] at h
  split at h
  · rename_i a st
    refine lv_astore hx hb hd  hl ho rfl (fun ls' hl' => ?_)
    have hw := hk _ _ _ _ _ _ _ _ _ h hI hS (zS1_lv (v := .ref a) hl hl') hc hs
    rw [hn] at hw
    exact hw
  · rename_i st
    refine lv_astoreN hx hb hd  hl ho rfl (fun ls' hl' => ?_)
    have hw := hk _ _ _ _ _ _ _ _ _ h hI hS (zS1_lv (v := .null) hl hl') hc hs
    rw [hn] at hw
    exact hw
  · exact h.elim

set_option maxHeartbeats 1000000 in
theorem zs_iinc {k : Nat} {n : Int} {pc x y : Nat} {w : Int32} {t : List Nat} : zOne p l ev R s m args below meth c Q cc own nL ret init cd B D cA ext L xs d Rr μF L0 S0 (pc, .iinc k n, x, y, w, t) := by
  intro C hR ip ls st μ H locs lsA cells slots K Z hd hn0 ho h hI hS hl hc hs hF hFs hle hk hz
  obtain ⟨hx, hb, hml, hown, hts, hK, hX, hch, hin, hfr, hlo⟩ := C
  have hn : zPc cd (ip + 1) = pc + 3 := hn0 rfl
  have ho : (k = x ∧ Int32.ofInt n = w) ∧ x < nL := by simpa [zOpk, and_assoc] using ho
  obtain ⟨⟨rfl, ho1⟩, ho2⟩ := ho
  simp only [zStep] at h
  split at h
  · rename_i a hg
    obtain ⟨i, hi⟩ := List.getElem?_of_mem (zG_lv hl hg).2
    refine lv_iinc (k := i) (v := a + w) hx hb hd hl (by rw [List.getElem?_map, hi]; rfl) (by rw [ho1]) ho2 rfl (fun ls' hl' => ?_)
    have hw := hk _ _ _ _ _ _ _ _ _ h hI hS (zS1_lv (v := .int (a + w)) hl hl') hc hs
    rw [hn] at hw
    exact hw
  · exact h.elim

set_option maxHeartbeats 1000000 in
theorem zs_iadd {pc x y : Nat} {w : Int32} {t : List Nat} : zOne p l ev R s m args below meth c Q cc own nL ret init cd B D cA ext L xs d Rr μF L0 S0 (pc, .iadd, x, y, w, t) := by
  intro C hR ip ls st μ H locs lsA cells slots K Z hd hn0 ho h hI hS hl hc hs hF hFs hle hk hz
  obtain ⟨hx, hb, hml, hown, hts, hK, hX, hch, hin, hfr, hlo⟩ := C
  have hn : zPc cd (ip + 1) = pc + 1 := hn0 rfl
  simp only [zStep, zBin] at h
  split at h
  · rename_i f b a st hf
    obtain rfl := Option.some.inj hf
    refine lv_iadd hx hb hd ?_
    have hw := hk _ _ _ _ _ _ _ _ _ h hI hS hl hc hs
    rw [hn] at hw
    exact hw
  · exact h.elim

set_option maxHeartbeats 1000000 in
theorem zs_isub {pc x y : Nat} {w : Int32} {t : List Nat} : zOne p l ev R s m args below meth c Q cc own nL ret init cd B D cA ext L xs d Rr μF L0 S0 (pc, .isub, x, y, w, t) := by
  intro C hR ip ls st μ H locs lsA cells slots K Z hd hn0 ho h hI hS hl hc hs hF hFs hle hk hz
  obtain ⟨hx, hb, hml, hown, hts, hK, hX, hch, hin, hfr, hlo⟩ := C
  have hn : zPc cd (ip + 1) = pc + 1 := hn0 rfl
  simp only [zStep, zBin] at h
  split at h
  · rename_i f b a st hf
    obtain rfl := Option.some.inj hf
    refine lv_isub hx hb hd ?_
    have hw := hk _ _ _ _ _ _ _ _ _ h hI hS hl hc hs
    rw [hn] at hw
    exact hw
  · exact h.elim

set_option maxHeartbeats 1000000 in
theorem zs_imul {pc x y : Nat} {w : Int32} {t : List Nat} : zOne p l ev R s m args below meth c Q cc own nL ret init cd B D cA ext L xs d Rr μF L0 S0 (pc, .imul, x, y, w, t) := by
  intro C hR ip ls st μ H locs lsA cells slots K Z hd hn0 ho h hI hS hl hc hs hF hFs hle hk hz
  obtain ⟨hx, hb, hml, hown, hts, hK, hX, hch, hin, hfr, hlo⟩ := C
  have hn : zPc cd (ip + 1) = pc + 1 := hn0 rfl
  simp only [zStep, zBin] at h
  split at h
  · rename_i f b a st hf
    obtain rfl := Option.some.inj hf
    refine lv_imul hx hb hd ?_
    have hw := hk _ _ _ _ _ _ _ _ _ h hI hS hl hc hs
    rw [hn] at hw
    exact hw
  · exact h.elim

set_option maxHeartbeats 1000000 in
theorem zs_iand {pc x y : Nat} {w : Int32} {t : List Nat} : zOne p l ev R s m args below meth c Q cc own nL ret init cd B D cA ext L xs d Rr μF L0 S0 (pc, .iand, x, y, w, t) := by
  intro C hR ip ls st μ H locs lsA cells slots K Z hd hn0 ho h hI hS hl hc hs hF hFs hle hk hz
  obtain ⟨hx, hb, hml, hown, hts, hK, hX, hch, hin, hfr, hlo⟩ := C
  have hn : zPc cd (ip + 1) = pc + 1 := hn0 rfl
  simp only [zStep, zBin] at h
  split at h
  · rename_i f b a st hf
    obtain rfl := Option.some.inj hf
    refine lv_iand hx hb hd ?_
    have hw := hk _ _ _ _ _ _ _ _ _ h hI hS hl hc hs
    rw [hn] at hw
    exact hw
  · exact h.elim

set_option maxHeartbeats 1000000 in
theorem zs_ior {pc x y : Nat} {w : Int32} {t : List Nat} : zOne p l ev R s m args below meth c Q cc own nL ret init cd B D cA ext L xs d Rr μF L0 S0 (pc, .ior, x, y, w, t) := by
  intro C hR ip ls st μ H locs lsA cells slots K Z hd hn0 ho h hI hS hl hc hs hF hFs hle hk hz
  obtain ⟨hx, hb, hml, hown, hts, hK, hX, hch, hin, hfr, hlo⟩ := C
  have hn : zPc cd (ip + 1) = pc + 1 := hn0 rfl
  simp only [zStep, zBin] at h
  split at h
  · rename_i f b a st hf
    obtain rfl := Option.some.inj hf
    refine lv_ior hx hb hd ?_
    have hw := hk _ _ _ _ _ _ _ _ _ h hI hS hl hc hs
    rw [hn] at hw
    exact hw
  · exact h.elim

set_option maxHeartbeats 1000000 in
theorem zs_ixor {pc x y : Nat} {w : Int32} {t : List Nat} : zOne p l ev R s m args below meth c Q cc own nL ret init cd B D cA ext L xs d Rr μF L0 S0 (pc, .ixor, x, y, w, t) := by
  intro C hR ip ls st μ H locs lsA cells slots K Z hd hn0 ho h hI hS hl hc hs hF hFs hle hk hz
  obtain ⟨hx, hb, hml, hown, hts, hK, hX, hch, hin, hfr, hlo⟩ := C
  have hn : zPc cd (ip + 1) = pc + 1 := hn0 rfl
  simp only [zStep, zBin] at h
  split at h
  · rename_i f b a st hf
    obtain rfl := Option.some.inj hf
    refine lv_ixor hx hb hd ?_
    have hw := hk _ _ _ _ _ _ _ _ _ h hI hS hl hc hs
    rw [hn] at hw
    exact hw
  · exact h.elim

set_option maxHeartbeats 1000000 in
theorem zs_ishl {pc x y : Nat} {w : Int32} {t : List Nat} : zOne p l ev R s m args below meth c Q cc own nL ret init cd B D cA ext L xs d Rr μF L0 S0 (pc, .ishl, x, y, w, t) := by
  intro C hR ip ls st μ H locs lsA cells slots K Z hd hn0 ho h hI hS hl hc hs hF hFs hle hk hz
  obtain ⟨hx, hb, hml, hown, hts, hK, hX, hch, hin, hfr, hlo⟩ := C
  have hn : zPc cd (ip + 1) = pc + 1 := hn0 rfl
  simp only [zStep, zBin] at h
  split at h
  · rename_i f b a st hf
    obtain rfl := Option.some.inj hf
    refine lv_ishl hx hb hd ?_
    have hw := hk _ _ _ _ _ _ _ _ _ h hI hS hl hc hs
    rw [hn] at hw
    exact hw
  · exact h.elim

set_option maxHeartbeats 1000000 in
theorem zs_ishr {pc x y : Nat} {w : Int32} {t : List Nat} : zOne p l ev R s m args below meth c Q cc own nL ret init cd B D cA ext L xs d Rr μF L0 S0 (pc, .ishr, x, y, w, t) := by
  intro C hR ip ls st μ H locs lsA cells slots K Z hd hn0 ho h hI hS hl hc hs hF hFs hle hk hz
  obtain ⟨hx, hb, hml, hown, hts, hK, hX, hch, hin, hfr, hlo⟩ := C
  have hn : zPc cd (ip + 1) = pc + 1 := hn0 rfl
  simp only [zStep, zBin] at h
  split at h
  · rename_i f b a st hf
    obtain rfl := Option.some.inj hf
    refine lv_ishr hx hb hd ?_
    have hw := hk _ _ _ _ _ _ _ _ _ h hI hS hl hc hs
    rw [hn] at hw
    exact hw
  · exact h.elim

set_option maxHeartbeats 1000000 in
theorem zs_iushr {pc x y : Nat} {w : Int32} {t : List Nat} : zOne p l ev R s m args below meth c Q cc own nL ret init cd B D cA ext L xs d Rr μF L0 S0 (pc, .iushr, x, y, w, t) := by
  intro C hR ip ls st μ H locs lsA cells slots K Z hd hn0 ho h hI hS hl hc hs hF hFs hle hk hz
  obtain ⟨hx, hb, hml, hown, hts, hK, hX, hch, hin, hfr, hlo⟩ := C
  have hn : zPc cd (ip + 1) = pc + 1 := hn0 rfl
  simp only [zStep, zBin] at h
  split at h
  · rename_i f b a st hf
    obtain rfl := Option.some.inj hf
    refine lv_iushr hx hb hd rfl ?_
    have hw := hk _ _ _ _ _ _ _ _ _ h hI hS hl hc hs
    rw [hn] at hw
    exact hw
  · exact h.elim

set_option maxHeartbeats 1000000 in
theorem zs_ineg {pc x y : Nat} {w : Int32} {t : List Nat} : zOne p l ev R s m args below meth c Q cc own nL ret init cd B D cA ext L xs d Rr μF L0 S0 (pc, .ineg, x, y, w, t) := by
  intro C hR ip ls st μ H locs lsA cells slots K Z hd hn0 ho h hI hS hl hc hs hF hFs hle hk hz
  obtain ⟨hx, hb, hml, hown, hts, hK, hX, hch, hin, hfr, hlo⟩ := C
  have hn : zPc cd (ip + 1) = pc + 1 := hn0 rfl
  simp only [zStep] at h
  split at h
  · rename_i a st
    refine lv_ineg hx hb hd ?_
    have hw := hk _ _ _ _ _ _ _ _ _ h hI hS hl hc hs
    rw [hn] at hw
    exact hw
  · exact h.elim

set_option maxHeartbeats 1000000 in
theorem zs_i2l {pc x y : Nat} {w : Int32} {t : List Nat} : zOne p l ev R s m args below meth c Q cc own nL ret init cd B D cA ext L xs d Rr μF L0 S0 (pc, .i2l, x, y, w, t) := by
  intro C hR ip ls st μ H locs lsA cells slots K Z hd hn0 ho h hI hS hl hc hs hF hFs hle hk hz
  obtain ⟨hx, hb, hml, hown, hts, hK, hX, hch, hin, hfr, hlo⟩ := C
  have hn : zPc cd (ip + 1) = pc + 1 := hn0 rfl
  simp only [zStep] at h
  split at h
  · rename_i a st
    refine lv_i2l hx hb hd rfl ?_
    have hw := hk _ _ _ _ _ _ _ _ _ h hI hS hl hc hs
    rw [hn] at hw
    exact hw
  · exact h.elim

set_option maxHeartbeats 1000000 in
theorem zs_i2b {pc x y : Nat} {w : Int32} {t : List Nat} : zOne p l ev R s m args below meth c Q cc own nL ret init cd B D cA ext L xs d Rr μF L0 S0 (pc, .i2b, x, y, w, t) := by
  intro C hR ip ls st μ H locs lsA cells slots K Z hd hn0 ho h hI hS hl hc hs hF hFs hle hk hz
  obtain ⟨hx, hb, hml, hown, hts, hK, hX, hch, hin, hfr, hlo⟩ := C
  have hn : zPc cd (ip + 1) = pc + 1 := hn0 rfl
  simp only [zStep] at h
  split at h
  · rename_i a st
    refine lv_i2b hx hb hd rfl ?_
    have hw := hk _ _ _ _ _ _ _ _ _ h hI hS hl hc hs
    rw [hn] at hw
    exact hw
  · exact h.elim

set_option maxHeartbeats 1000000 in
theorem zs_i2s {pc x y : Nat} {w : Int32} {t : List Nat} : zOne p l ev R s m args below meth c Q cc own nL ret init cd B D cA ext L xs d Rr μF L0 S0 (pc, .i2s, x, y, w, t) := by
  intro C hR ip ls st μ H locs lsA cells slots K Z hd hn0 ho h hI hS hl hc hs hF hFs hle hk hz
  obtain ⟨hx, hb, hml, hown, hts, hK, hX, hch, hin, hfr, hlo⟩ := C
  have hn : zPc cd (ip + 1) = pc + 1 := hn0 rfl
  simp only [zStep] at h
  split at h
  · rename_i a st
    refine lv_i2s hx hb hd rfl ?_
    have hw := hk _ _ _ _ _ _ _ _ _ h hI hS hl hc hs
    rw [hn] at hw
    exact hw
  · exact h.elim

set_option maxHeartbeats 1000000 in
theorem zs_ladd {pc x y : Nat} {w : Int32} {t : List Nat} : zOne p l ev R s m args below meth c Q cc own nL ret init cd B D cA ext L xs d Rr μF L0 S0 (pc, .ladd, x, y, w, t) := by
  intro C hR ip ls st μ H locs lsA cells slots K Z hd hn0 ho h hI hS hl hc hs hF hFs hle hk hz
  obtain ⟨hx, hb, hml, hown, hts, hK, hX, hch, hin, hfr, hlo⟩ := C
  have hn : zPc cd (ip + 1) = pc + 1 := hn0 rfl
  simp only [zStep] at h
  split at h
  · rename_i b a st
    refine lv_ladd hx hb hd ?_
    have hw := hk _ _ _ _ _ _ _ _ _ h hI hS hl hc hs
    rw [hn] at hw
    exact hw
  · exact h.elim

set_option maxHeartbeats 1000000 in
theorem zs_lmul {pc x y : Nat} {w : Int32} {t : List Nat} : zOne p l ev R s m args below meth c Q cc own nL ret init cd B D cA ext L xs d Rr μF L0 S0 (pc, .lmul, x, y, w, t) := by
  intro C hR ip ls st μ H locs lsA cells slots K Z hd hn0 ho h hI hS hl hc hs hF hFs hle hk hz
  obtain ⟨hx, hb, hml, hown, hts, hK, hX, hch, hin, hfr, hlo⟩ := C
  have hn : zPc cd (ip + 1) = pc + 1 := hn0 rfl
  simp only [zStep] at h
  split at h
  · rename_i b a st
    refine lv_lmul hx hb hd ?_
    have hw := hk _ _ _ _ _ _ _ _ _ h hI hS hl hc hs
    rw [hn] at hw
    exact hw
  · exact h.elim

set_option maxHeartbeats 1000000 in
theorem zs_lcmp {pc x y : Nat} {w : Int32} {t : List Nat} : zOne p l ev R s m args below meth c Q cc own nL ret init cd B D cA ext L xs d Rr μF L0 S0 (pc, .lcmp, x, y, w, t) := by
  intro C hR ip ls st μ H locs lsA cells slots K Z hd hn0 ho h hI hS hl hc hs hF hFs hle hk hz
  obtain ⟨hx, hb, hml, hown, hts, hK, hX, hch, hin, hfr, hlo⟩ := C
  have hn : zPc cd (ip + 1) = pc + 1 := hn0 rfl
  simp only [zStep] at h
  split at h
  · rename_i b a st
    refine W.lcmp hx hb hd ?_
    have hw := hk _ _ _ _ _ _ _ _ _ h hI hS hl hc hs
    rw [hn] at hw
    exact hw
  · exact h.elim

set_option maxHeartbeats 1000000 in
theorem zs_idiv {pc x y : Nat} {w : Int32} {t : List Nat} : zOne p l ev R s m args below meth c Q cc own nL ret init cd B D cA ext L xs d Rr μF L0 S0 (pc, .idiv, x, y, w, t) := by
  intro C hR ip ls st μ H locs lsA cells slots K Z hd hn0 ho h hI hS hl hc hs hF hFs hle hk hz
  obtain ⟨hx, hb, hml, hown, hts, hK, hX, hch, hin, hfr, hlo⟩ := C
  have hn : zPc cd (ip + 1) = pc + 1 := hn0 rfl
  simp only [zStep] at h
  split at h
  · rename_i b a st
    obtain ⟨h0, h⟩ := h
    refine lv_idiv hx hb hd h0 ?_
    have hw := hk _ _ _ _ _ _ _ _ _ h hI hS hl hc hs
    rw [hn] at hw
    exact hw
  · exact h.elim

set_option maxHeartbeats 1000000 in
theorem zs_irem {pc x y : Nat} {w : Int32} {t : List Nat} : zOne p l ev R s m args below meth c Q cc own nL ret init cd B D cA ext L xs d Rr μF L0 S0 (pc, .irem, x, y, w, t) := by
  intro C hR ip ls st μ H locs lsA cells slots K Z hd hn0 ho h hI hS hl hc hs hF hFs hle hk hz
  obtain ⟨hx, hb, hml, hown, hts, hK, hX, hch, hin, hfr, hlo⟩ := C
  have hn : zPc cd (ip + 1) = pc + 1 := hn0 rfl
  simp only [zStep] at h
  split at h
  · rename_i b a st
    obtain ⟨h0, h⟩ := h
    refine lv_irem hx hb hd h0 ?_
    have hw := hk _ _ _ _ _ _ _ _ _ h hI hS hl hc hs
    rw [hn] at hw
    exact hw
  · exact h.elim

set_option maxHeartbeats 1000000 in
theorem zs_ldiv {pc x y : Nat} {w : Int32} {t : List Nat} : zOne p l ev R s m args below meth c Q cc own nL ret init cd B D cA ext L xs d Rr μF L0 S0 (pc, .ldiv, x, y, w, t) := by
  intro C hR ip ls st μ H locs lsA cells slots K Z hd hn0 ho h hI hS hl hc hs hF hFs hle hk hz
  obtain ⟨hx, hb, hml, hown, hts, hK, hX, hch, hin, hfr, hlo⟩ := C
  have hn : zPc cd (ip + 1) = pc + 1 := hn0 rfl
  simp only [zStep] at h
  split at h
  · rename_i b a st
    obtain ⟨h0, h⟩ := h
    refine lv_ldiv hx hb hd h0 ?_
    have hw := hk _ _ _ _ _ _ _ _ _ h hI hS hl hc hs
    rw [hn] at hw
    exact hw
  · exact h.elim

set_option maxHeartbeats 1000000 in
theorem zs_lrem {pc x y : Nat} {w : Int32} {t : List Nat} : zOne p l ev R s m args below meth c Q cc own nL ret init cd B D cA ext L xs d Rr μF L0 S0 (pc, .lrem, x, y, w, t) := by
  intro C hR ip ls st μ H locs lsA cells slots K Z hd hn0 ho h hI hS hl hc hs hF hFs hle hk hz
  obtain ⟨hx, hb, hml, hown, hts, hK, hX, hch, hin, hfr, hlo⟩ := C
  have hn : zPc cd (ip + 1) = pc + 1 := hn0 rfl
  simp only [zStep] at h
  split at h
  · rename_i b a st
    obtain ⟨h0, h⟩ := h
    refine lv_lrem hx hb hd h0 ?_
    have hw := hk _ _ _ _ _ _ _ _ _ h hI hS hl hc hs
    rw [hn] at hw
    exact hw
  · exact h.elim

set_option maxHeartbeats 1000000 in
theorem zs_dup {pc x y : Nat} {w : Int32} {t : List Nat} : zOne p l ev R s m args below meth c Q cc own nL ret init cd B D cA ext L xs d Rr μF L0 S0 (pc, .dup, x, y, w, t) := by
  intro C hR ip ls st μ H locs lsA cells slots K Z hd hn0 ho h hI hS hl hc hs hF hFs hle hk hz
  obtain ⟨hx, hb, hml, hown, hts, hK, hX, hch, hin, hfr, hlo⟩ := C
  have hn : zPc cd (ip + 1) = pc + 1 := hn0 rfl
  simp only [zStep] at h
  split at h
  · refine lv_dup hx hb hd rfl ?_
    have hw := hk _ _ _ _ _ _ _ _ _ h hI hS hl hc hs
    rw [hn] at hw
    exact hw
  · refine lv_dup hx hb hd rfl ?_
    have hw := hk _ _ _ _ _ _ _ _ _ h hI hS hl hc hs
    rw [hn] at hw
    exact hw
  · exact h.elim

set_option maxHeartbeats 1000000 in
theorem zs_dup2 {pc x y : Nat} {w : Int32} {t : List Nat} : zOne p l ev R s m args below meth c Q cc own nL ret init cd B D cA ext L xs d Rr μF L0 S0 (pc, .dup2, x, y, w, t) := by
  intro C hR ip ls st μ H locs lsA cells slots K Z hd hn0 ho h hI hS hl hc hs hF hFs hle hk hz
  obtain ⟨hx, hb, hml, hown, hts, hK, hX, hch, hin, hfr, hlo⟩ := C
  have hn : zPc cd (ip + 1) = pc + 1 := hn0 rfl
  simp only [zStep] at h
  split at h
  · refine lv_dup2_11 hx hb hd rfl rfl ?_
    have hw := hk _ _ _ _ _ _ _ _ _ h hI hS hl hc hs
    rw [hn] at hw
    exact hw
  · exact h.elim

set_option maxHeartbeats 1000000 in
theorem zs_pop {pc x y : Nat} {w : Int32} {t : List Nat} : zOne p l ev R s m args below meth c Q cc own nL ret init cd B D cA ext L xs d Rr μF L0 S0 (pc, .pop, x, y, w, t) := by
  intro C hR ip ls st μ H locs lsA cells slots K Z hd hn0 ho h hI hS hl hc hs hF hFs hle hk hz
  obtain ⟨hx, hb, hml, hown, hts, hK, hX, hch, hin, hfr, hlo⟩ := C
  have hn : zPc cd (ip + 1) = pc + 1 := hn0 rfl
  simp only [zStep] at h
  split at h
  · refine lv_pop hx hb hd rfl ?_
    have hw := hk _ _ _ _ _ _ _ _ _ h hI hS hl hc hs
    rw [hn] at hw
    exact hw
  · refine lv_pop hx hb hd rfl ?_
    have hw := hk _ _ _ _ _ _ _ _ _ h hI hS hl hc hs
    rw [hn] at hw
    exact hw
  · refine lv_pop hx hb hd rfl ?_
    have hw := hk _ _ _ _ _ _ _ _ _ h hI hS hl hc hs
    rw [hn] at hw
    exact hw
  · exact h.elim

set_option maxHeartbeats 1000000 in
theorem zs_goto {off : Int} {pc x y : Nat} {w : Int32} {t : List Nat} : zOne p l ev R s m args below meth c Q cc own nL ret init cd B D cA ext L xs d Rr μF L0 S0 (pc, .goto off, x, y, w, t) := by
  intro C hR ip ls st μ H locs lsA cells slots K Z hd hn0 ho h hI hS hl hc hs hF hFs hle hk hz
  obtain ⟨hx, hb, hml, hown, hts, hK, hX, hch, hin, hfr, hlo⟩ := C
  have ho : (pc : Int) + off = (zPc cd x : Int) := of_decide_eq_true ho
  exact lv_goto hx hb hd ho (hk _ _ _ _ _ _ _ _ _ h hI hS hl hc hs)

set_option maxHeartbeats 1000000 in
theorem zs_if_eq {off : Int} {pc x y : Nat} {w : Int32} {t : List Nat} : zOne p l ev R s m args below meth c Q cc own nL ret init cd B D cA ext L xs d Rr μF L0 S0 (pc, .ifCond .eq off, x, y, w, t) := by
  intro C hR ip ls st μ H locs lsA cells slots K Z hd hn0 ho h hI hS hl hc hs hF hFs hle hk hz
  obtain ⟨hx, hb, hml, hown, hts, hK, hX, hch, hin, hfr, hlo⟩ := C
  have hn : zPc cd (ip + 1) = pc + 3 := hn0 rfl
  have ho : (pc : Int) + off = (zPc cd x : Int) := of_decide_eq_true ho
  simp only [zStep] at h
  split at h
  · rename_i a st
    refine lv_if_eq hx hb hd ho (fun hq => ?_) (fun hq => ?_)
    · exact hk _ _ _ _ _ _ _ _ _ (h.1 hq) hI hS hl hc hs
    · have hw := hk _ _ _ _ _ _ _ _ _ (h.2 hq) hI hS hl hc hs
      rw [hn] at hw
      exact hw
  · exact h.elim

set_option maxHeartbeats 1000000 in
theorem zs_if_ne {off : Int} {pc x y : Nat} {w : Int32} {t : List Nat} : zOne p l ev R s m args below meth c Q cc own nL ret init cd B D cA ext L xs d Rr μF L0 S0 (pc, .ifCond .ne off, x, y, w, t) := by
  intro C hR ip ls st μ H locs lsA cells slots K Z hd hn0 ho h hI hS hl hc hs hF hFs hle hk hz
  obtain ⟨hx, hb, hml, hown, hts, hK, hX, hch, hin, hfr, hlo⟩ := C
  have hn : zPc cd (ip + 1) = pc + 3 := hn0 rfl
  have ho : (pc : Int) + off = (zPc cd x : Int) := of_decide_eq_true ho
  simp only [zStep] at h
  split at h
  · rename_i a st
    refine lv_if_ne hx hb hd ho (fun hq => ?_) (fun hq => ?_)
    · exact hk _ _ _ _ _ _ _ _ _ (h.1 hq) hI hS hl hc hs
    · have hw := hk _ _ _ _ _ _ _ _ _ (h.2 hq) hI hS hl hc hs
      rw [hn] at hw
      exact hw
  · exact h.elim

set_option maxHeartbeats 1000000 in
theorem zs_if_lt {off : Int} {pc x y : Nat} {w : Int32} {t : List Nat} : zOne p l ev R s m args below meth c Q cc own nL ret init cd B D cA ext L xs d Rr μF L0 S0 (pc, .ifCond .lt off, x, y, w, t) := by
  intro C hR ip ls st μ H locs lsA cells slots K Z hd hn0 ho h hI hS hl hc hs hF hFs hle hk hz
  obtain ⟨hx, hb, hml, hown, hts, hK, hX, hch, hin, hfr, hlo⟩ := C
  have hn : zPc cd (ip + 1) = pc + 3 := hn0 rfl
  have ho : (pc : Int) + off = (zPc cd x : Int) := of_decide_eq_true ho
  simp only [zStep] at h
  split at h
  · rename_i a st
    refine lv_if_lt hx hb hd ho (fun hq => ?_) (fun hq => ?_)
    · exact hk _ _ _ _ _ _ _ _ _ (h.1 hq) hI hS hl hc hs
    · have hw := hk _ _ _ _ _ _ _ _ _ (h.2 hq) hI hS hl hc hs
      rw [hn] at hw
      exact hw
  · exact h.elim

set_option maxHeartbeats 1000000 in
theorem zs_if_ge {off : Int} {pc x y : Nat} {w : Int32} {t : List Nat} : zOne p l ev R s m args below meth c Q cc own nL ret init cd B D cA ext L xs d Rr μF L0 S0 (pc, .ifCond .ge off, x, y, w, t) := by
  intro C hR ip ls st μ H locs lsA cells slots K Z hd hn0 ho h hI hS hl hc hs hF hFs hle hk hz
  obtain ⟨hx, hb, hml, hown, hts, hK, hX, hch, hin, hfr, hlo⟩ := C
  have hn : zPc cd (ip + 1) = pc + 3 := hn0 rfl
  have ho : (pc : Int) + off = (zPc cd x : Int) := of_decide_eq_true ho
  simp only [zStep] at h
  split at h
  · rename_i a st
    refine lv_if_ge hx hb hd ho (fun hq => ?_) (fun hq => ?_)
    · exact hk _ _ _ _ _ _ _ _ _ (h.1 hq) hI hS hl hc hs
    · have hw := hk _ _ _ _ _ _ _ _ _ (h.2 hq) hI hS hl hc hs
      rw [hn] at hw
      exact hw
  · exact h.elim

set_option maxHeartbeats 1000000 in
theorem zs_if_gt {off : Int} {pc x y : Nat} {w : Int32} {t : List Nat} : zOne p l ev R s m args below meth c Q cc own nL ret init cd B D cA ext L xs d Rr μF L0 S0 (pc, .ifCond .gt off, x, y, w, t) := by
  intro C hR ip ls st μ H locs lsA cells slots K Z hd hn0 ho h hI hS hl hc hs hF hFs hle hk hz
  obtain ⟨hx, hb, hml, hown, hts, hK, hX, hch, hin, hfr, hlo⟩ := C
  have hn : zPc cd (ip + 1) = pc + 3 := hn0 rfl
  have ho : (pc : Int) + off = (zPc cd x : Int) := of_decide_eq_true ho
  simp only [zStep] at h
  split at h
  · rename_i a st
    refine lv_if_gt hx hb hd ho (fun hq => ?_) (fun hq => ?_)
    · exact hk _ _ _ _ _ _ _ _ _ (h.1 hq) hI hS hl hc hs
    · have hw := hk _ _ _ _ _ _ _ _ _ (h.2 hq) hI hS hl hc hs
      rw [hn] at hw
      exact hw
  · exact h.elim

set_option maxHeartbeats 1000000 in
theorem zs_if_le {off : Int} {pc x y : Nat} {w : Int32} {t : List Nat} : zOne p l ev R s m args below meth c Q cc own nL ret init cd B D cA ext L xs d Rr μF L0 S0 (pc, .ifCond .le off, x, y, w, t) := by
  intro C hR ip ls st μ H locs lsA cells slots K Z hd hn0 ho h hI hS hl hc hs hF hFs hle hk hz
  obtain ⟨hx, hb, hml, hown, hts, hK, hX, hch, hin, hfr, hlo⟩ := C
  have hn : zPc cd (ip + 1) = pc + 3 := hn0 rfl
  have ho : (pc : Int) + off = (zPc cd x : Int) := of_decide_eq_true ho
  simp only [zStep] at h
  split at h
  · rename_i a st
    refine lv_if_le hx hb hd ho (fun hq => ?_) (fun hq => ?_)
    · exact hk _ _ _ _ _ _ _ _ _ (h.1 hq) hI hS hl hc hs
    · have hw := hk _ _ _ _ _ _ _ _ _ (h.2 hq) hI hS hl hc hs
      rw [hn] at hw
      exact hw
  · exact h.elim

set_option maxHeartbeats 1000000 in
theorem zs_icmp_eq {off : Int} {pc x y : Nat} {w : Int32} {t : List Nat} : zOne p l ev R s m args below meth c Q cc own nL ret init cd B D cA ext L xs d Rr μF L0 S0 (pc, .if_icmp .eq off, x, y, w, t) := by
  intro C hR ip ls st μ H locs lsA cells slots K Z hd hn0 ho h hI hS hl hc hs hF hFs hle hk hz
  obtain ⟨hx, hb, hml, hown, hts, hK, hX, hch, hin, hfr, hlo⟩ := C
  have hn : zPc cd (ip + 1) = pc + 3 := hn0 rfl
  have ho : (pc : Int) + off = (zPc cd x : Int) := of_decide_eq_true ho
  simp only [zStep] at h
  split at h
  · rename_i b a st
    refine lv_icmp_eq hx hb hd ho (fun hq => ?_) (fun hq => ?_)
    · exact hk _ _ _ _ _ _ _ _ _ (h.1 hq) hI hS hl hc hs
    · have hw := hk _ _ _ _ _ _ _ _ _ (h.2 hq) hI hS hl hc hs
      rw [hn] at hw
      exact hw
  · exact h.elim

set_option maxHeartbeats 1000000 in
theorem zs_icmp_ne {off : Int} {pc x y : Nat} {w : Int32} {t : List Nat} : zOne p l ev R s m args below meth c Q cc own nL ret init cd B D cA ext L xs d Rr μF L0 S0 (pc, .if_icmp .ne off, x, y, w, t) := by
  intro C hR ip ls st μ H locs lsA cells slots K Z hd hn0 ho h hI hS hl hc hs hF hFs hle hk hz
  obtain ⟨hx, hb, hml, hown, hts, hK, hX, hch, hin, hfr, hlo⟩ := C
  have hn : zPc cd (ip + 1) = pc + 3 := hn0 rfl
  have ho : (pc : Int) + off = (zPc cd x : Int) := of_decide_eq_true ho
  simp only [zStep] at h
  split at h
  · rename_i b a st
    refine lv_icmp_ne hx hb hd ho (fun hq => ?_) (fun hq => ?_)
    · exact hk _ _ _ _ _ _ _ _ _ (h.1 hq) hI hS hl hc hs
    · have hw := hk _ _ _ _ _ _ _ _ _ (h.2 hq) hI hS hl hc hs
      rw [hn] at hw
      exact hw
  · exact h.elim

set_option maxHeartbeats 1000000 in
theorem zs_icmp_lt {off : Int} {pc x y : Nat} {w : Int32} {t : List Nat} : zOne p l ev R s m args below meth c Q cc own nL ret init cd B D cA ext L xs d Rr μF L0 S0 (pc, .if_icmp .lt off, x, y, w, t) := by
  intro C hR ip ls st μ H locs lsA cells slots K Z hd hn0 ho h hI hS hl hc hs hF hFs hle hk hz
  obtain ⟨hx, hb, hml, hown, hts, hK, hX, hch, hin, hfr, hlo⟩ := C
  have hn : zPc cd (ip + 1) = pc + 3 := hn0 rfl
  have ho : (pc : Int) + off = (zPc cd x : Int) := of_decide_eq_true ho
  simp only [zStep] at h
  split at h
  · rename_i b a st
    refine lv_icmp_lt hx hb hd ho (fun hq => ?_) (fun hq => ?_)
    · exact hk _ _ _ _ _ _ _ _ _ (h.1 hq) hI hS hl hc hs
    · have hw := hk _ _ _ _ _ _ _ _ _ (h.2 hq) hI hS hl hc hs
      rw [hn] at hw
      exact hw
  · exact h.elim

set_option maxHeartbeats 1000000 in
theorem zs_icmp_ge {off : Int} {pc x y : Nat} {w : Int32} {t : List Nat} : zOne p l ev R s m args below meth c Q cc own nL ret init cd B D cA ext L xs d Rr μF L0 S0 (pc, .if_icmp .ge off, x, y, w, t) := by
  intro C hR ip ls st μ H locs lsA cells slots K Z hd hn0 ho h hI hS hl hc hs hF hFs hle hk hz
  obtain ⟨hx, hb, hml, hown, hts, hK, hX, hch, hin, hfr, hlo⟩ := C
  have hn : zPc cd (ip + 1) = pc + 3 := hn0 rfl
  have ho : (pc : Int) + off = (zPc cd x : Int) := of_decide_eq_true ho
  simp only [zStep] at h
  split at h
  · rename_i b a st
    refine lv_icmp_ge hx hb hd ho (fun hq => ?_) (fun hq => ?_)
    · exact hk _ _ _ _ _ _ _ _ _ (h.1 hq) hI hS hl hc hs
    · have hw := hk _ _ _ _ _ _ _ _ _ (h.2 hq) hI hS hl hc hs
      rw [hn] at hw
      exact hw
  · exact h.elim

set_option maxHeartbeats 1000000 in
theorem zs_icmp_gt {off : Int} {pc x y : Nat} {w : Int32} {t : List Nat} : zOne p l ev R s m args below meth c Q cc own nL ret init cd B D cA ext L xs d Rr μF L0 S0 (pc, .if_icmp .gt off, x, y, w, t) := by
  intro C hR ip ls st μ H locs lsA cells slots K Z hd hn0 ho h hI hS hl hc hs hF hFs hle hk hz
  obtain ⟨hx, hb, hml, hown, hts, hK, hX, hch, hin, hfr, hlo⟩ := C
  have hn : zPc cd (ip + 1) = pc + 3 := hn0 rfl
  have ho : (pc : Int) + off = (zPc cd x : Int) := of_decide_eq_true ho
  simp only [zStep] at h
  split at h
  · rename_i b a st
    refine lv_icmp_gt hx hb hd ho (fun hq => ?_) (fun hq => ?_)
    · exact hk _ _ _ _ _ _ _ _ _ (h.1 hq) hI hS hl hc hs
    · have hw := hk _ _ _ _ _ _ _ _ _ (h.2 hq) hI hS hl hc hs
      rw [hn] at hw
      exact hw
  · exact h.elim

set_option maxHeartbeats 1000000 in
theorem zs_icmp_le {off : Int} {pc x y : Nat} {w : Int32} {t : List Nat} : zOne p l ev R s m args below meth c Q cc own nL ret init cd B D cA ext L xs d Rr μF L0 S0 (pc, .if_icmp .le off, x, y, w, t) := by
  intro C hR ip ls st μ H locs lsA cells slots K Z hd hn0 ho h hI hS hl hc hs hF hFs hle hk hz
  obtain ⟨hx, hb, hml, hown, hts, hK, hX, hch, hin, hfr, hlo⟩ := C
  have hn : zPc cd (ip + 1) = pc + 3 := hn0 rfl
  have ho : (pc : Int) + off = (zPc cd x : Int) := of_decide_eq_true ho
  simp only [zStep] at h
  split at h
  · rename_i b a st
    refine lv_icmp_le hx hb hd ho (fun hq => ?_) (fun hq => ?_)
    · exact hk _ _ _ _ _ _ _ _ _ (h.1 hq) hI hS hl hc hs
    · have hw := hk _ _ _ _ _ _ _ _ _ (h.2 hq) hI hS hl hc hs
      rw [hn] at hw
      exact hw
  · exact h.elim

set_option maxHeartbeats 1000000 in
theorem zs_ifnull {off : Int} {pc x y : Nat} {w : Int32} {t : List Nat} : zOne p l ev R s m args below meth c Q cc own nL ret init cd B D cA ext L xs d Rr μF L0 S0 (pc, .ifnull off, x, y, w, t) := by
  intro C hR ip ls st μ H locs lsA cells slots K Z hd hn0 ho h hI hS hl hc hs hF hFs hle hk hz
  obtain ⟨hx, hb, hml, hown, hts, hK, hX, hch, hin, hfr, hlo⟩ := C
  have hn : zPc cd (ip + 1) = pc + 3 := hn0 rfl
  have ho : (pc : Int) + off = (zPc cd x : Int) := of_decide_eq_true ho
  simp only [zStep] at h
  split at h
  · refine lv_ifnull hx hb hd ?_
    have hw := hk _ _ _ _ _ _ _ _ _ h hI hS hl hc hs
    try rw [hn] at hw
    exact hw
  · refine lv_ifnullN hx hb hd ho ?_
    have hw := hk _ _ _ _ _ _ _ _ _ h hI hS hl hc hs
    try rw [hn] at hw
    exact hw
  · exact h.elim

set_option maxHeartbeats 1000000 in
theorem zs_ifnonnull {off : Int} {pc x y : Nat} {w : Int32} {t : List Nat} : zOne p l ev R s m args below meth c Q cc own nL ret init cd B D cA ext L xs d Rr μF L0 S0 (pc, .ifnonnull off, x, y, w, t) := by
  intro C hR ip ls st μ H locs lsA cells slots K Z hd hn0 ho h hI hS hl hc hs hF hFs hle hk hz
  obtain ⟨hx, hb, hml, hown, hts, hK, hX, hch, hin, hfr, hlo⟩ := C
  have hn : zPc cd (ip + 1) = pc + 3 := hn0 rfl
  have ho : (pc : Int) + off = (zPc cd x : Int) := of_decide_eq_true ho
  simp only [zStep] at h
  split at h
  · refine lv_ifnonnull hx hb hd ho ?_
    have hw := hk _ _ _ _ _ _ _ _ _ h hI hS hl hc hs
    try rw [hn] at hw
    exact hw
  · refine lv_ifnonnullN hx hb hd ?_
    have hw := hk _ _ _ _ _ _ _ _ _ h hI hS hl hc hs
    try rw [hn] at hw
    exact hw
  · exact h.elim

set_option maxHeartbeats 1000000 in
theorem zs_ireturn {pc x y : Nat} {w : Int32} {t : List Nat} : zOne p l ev R s m args below meth c Q cc own nL ret init cd B D cA ext L xs d Rr μF L0 S0 (pc, .ireturn, x, y, w, t) := by
  intro C hR ip ls st μ H locs lsA cells slots K Z hd hn0 ho h hI hS hl hc hs hF hFs hle hk hz
  obtain ⟨hx, hb, hml, hown, hts, hK, hX, hch, hin, hfr, hlo⟩ := C
  simp only [zStep] at h
  split at h
  · rename_i a
    split at h
    · refine hz (some (.int a)) _ _ _ h hd (Or.inl ⟨rfl, a, rfl, Or.inl ?_⟩)
      simpa [zOpk] using ho
    · refine hz (some (.int a)) _ _ _ h.2 hd (Or.inl ⟨rfl, a, rfl, Or.inr ⟨?_, h.1⟩⟩)
      rename_i ht
      unfold zOpk at ho
      cases t with
      | nil => exact absurd rfl ht
      | cons q t => simpa using ho
  · exact h.elim

set_option maxHeartbeats 1000000 in
theorem zs_lreturn {pc x y : Nat} {w : Int32} {t : List Nat} : zOne p l ev R s m args below meth c Q cc own nL ret init cd B D cA ext L xs d Rr μF L0 S0 (pc, .lreturn, x, y, w, t) := by
  intro C hR ip ls st μ H locs lsA cells slots K Z hd hn0 ho h hI hS hl hc hs hF hFs hle hk hz
  obtain ⟨hx, hb, hml, hown, hts, hK, hX, hch, hin, hfr, hlo⟩ := C
  simp only [zStep] at h
  split at h
  · rename_i a
    exact hz (some (.long a)) _ _ _ h hd (Or.inr (Or.inl ⟨rfl, of_decide_eq_true ho, a, rfl⟩))
  · exact h.elim

set_option maxHeartbeats 1000000 in
theorem zs_return {pc x y : Nat} {w : Int32} {t : List Nat} : zOne p l ev R s m args below meth c Q cc own nL ret init cd B D cA ext L xs d Rr μF L0 S0 (pc, .return_, x, y, w, t) := by
  intro C hR ip ls st μ H locs lsA cells slots K Z hd hn0 ho h hI hS hl hc hs hF hFs hle hk hz
  obtain ⟨hx, hb, hml, hown, hts, hK, hX, hch, hin, hfr, hlo⟩ := C
  simp only [zStep] at h
  split at h
  · exact hz none _ _ _ h hd (Or.inr (Or.inr (Or.inr ⟨rfl, rfl, of_decide_eq_true ho⟩)))
  · exact h.elim

set_option maxHeartbeats 1000000 in
theorem zs_areturn {pc x y : Nat} {w : Int32} {t : List Nat} : zOne p l ev R s m args below meth c Q cc own nL ret init cd B D cA ext L xs d Rr μF L0 S0 (pc, .areturn, x, y, w, t) := by
  intro C hR ip ls st μ H locs lsA cells slots K Z hd hn0 ho h hI hS hl hc hs hF hFs hle hk hz
  obtain ⟨hx, hb, hml, hown, hts, hK, hX, hch, hin, hfr, hlo⟩ := C
  have ho : ∃ r, ret = some r ∧ refKind r = true := by
    unfold zOpk at ho
    cases ret with
    | none => simp at ho
    | some r => exact ⟨r, rfl, ho⟩
  simp only [zStep] at h
  split at h
  · rename_i a
    exact hz (some (.ref a)) _ _ _ h hd (Or.inr (Or.inr (Or.inl ⟨rfl, ho, Or.inl ⟨a, rfl⟩⟩)))
  · exact hz (some .null) _ _ _ h hd (Or.inr (Or.inr (Or.inl ⟨rfl, ho, Or.inr rfl⟩)))
  · exact h.elim

end ZS
