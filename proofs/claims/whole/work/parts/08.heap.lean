/-! THE STEPS THAT READ AND WRITE CELLS -/
theorem zFr {B : Nat} {D : va_G} {cA : Nat → ClassId} {L : Nat} {xs : Nat → Int32} {μ : zM} {H : Heap} {r : Nat} {s : Nat × Nat} (hI : zIv B D cA L xs μ H) (h : μ.1[r]? = some s) : r < 1000000 := Nat.lt_of_lt_of_le (List.getElem?_eq_some_iff.mp h).1 hI.2.2.2.2.1
theorem zc_r {B : Nat} {ext : Nat → Nat} {r : Nat} (h : r < 1000000) : zc B ext (.ref r) = .ref (B + r) := by simp [zc, zAd, h]
theorem zSub_lt {ci y : Nat} (h : zSub ci y = true) (hy : y < 13) : ci < 13 := by
  unfold zSub at h
  simp only [Bool.or_eq_true, Bool.and_eq_true, beq_iff_eq] at h
  omega
theorem zEn_o {B : Nat} {cA : Nat → ClassId} {μ : zM} {k ci n : Nat} (h : ci < 13) : zEn B cA μ k (ci, n) = .inr (ci, zFs B μ k ci n) := by
  unfold zEn
  rw [if_pos (by show ci < 20; omega)]
theorem zEn_i {B : Nat} {cA : Nat → ClassId} {μ : zM} {k n : Nat} : zEn B cA μ k (20, n) = .inl (cA 0, n, .inl (μ.2.1 k)) := rfl
theorem zEn_z {B : Nat} {cA : Nat → ClassId} {μ : zM} {k n : Nat} : zEn B cA μ k (21, n) = .inl (cA 1, n, .inl (μ.2.1 k)) := rfl
theorem zEn_q {B : Nat} {cA : Nat → ClassId} {μ : zM} {k t n : Nat} (h : 22 ≤ t) : zEn B cA μ k (t, n) = .inl (cA (t - 20), n, .inr (.inr (.inr (.inr fun j => (μ.2.2 k j).map (fun q => B + q))))) := by
  unfold zEn
  rw [if_neg (by show ¬ t < 20; omega), if_neg (by show ¬ t < 22; omega)]
theorem all_of {l : List (Nat × Nat × Nat × Nat × Nat × Nat)} {f : Nat × Nat × Nat × Nat × Nat × Nat → Bool} (h : l.all f = true) {q : Nat × Nat × Nat × Nat × Nat × Nat} (hq : q ∈ l) : f q = true := List.all_eq_true.mp h q hq
theorem zF_fact {own n x y ci : Nat} (h : zFC.any (fun q => q.2.1 == n && q.1 == own && q.2.2.1 == x && q.2.2.2.1 == y) = true) (hc : ci < 13) (hs : zSub ci y = true) :
    x < (vwG ci).2.2 ∧ Cond.fieldLink (zRn own) n (zRn y) (zFd ci x).2.1 (zFd ci x).2.2.1 ∈ zTb ∧ ((zFd ci x).1 = zRn y ∨ Cond.sameField (zRn y) (zFd ci x).1 (zFd ci x).2.1 (zFd ci x).2.2.1 ∈ zTb) := by
  obtain ⟨⟨o, i, x', y', i1, j1⟩, hq, he⟩ := List.any_eq_true.mp h
  simp only [Bool.and_eq_true, beq_iff_eq] at he
  obtain ⟨⟨⟨rfl, rfl⟩, rfl⟩, rfl⟩ := he
  have hk := all_of zFC_ok hq
  unfold zFchk at hk
  have hk := List.all_eq_true.mp hk ci (List.mem_range.mpr hc)
  rw [hs] at hk
  simp only [Bool.not_true, Bool.false_or, Bool.and_eq_true, Bool.or_eq_true, decide_eq_true_eq] at hk
  obtain ⟨⟨h1, h2⟩, h3⟩ := hk
  exact ⟨h1, zHas_in h2, h3.imp id zHas_in⟩
theorem zSub_fact {ci y : Nat} (hc : ci < 13) (hy : y < 13) (hs : zSub ci y = true) : (vwG ci).2.2 = (vwG y).2.2 ∧ ∀ k, k < (vwG ci).2.2 → zFd ci k = zFd y k ∧ zFR ci k = zFR y k ∧ zKd ci k = zKd y k := by
  have h1 := List.all_eq_true.mp zSub_ok ci (List.mem_range.mpr hc)
  have h2 := List.all_eq_true.mp h1 y (List.mem_range.mpr hy)
  rw [hs] at h2
  simp only [Bool.not_true, Bool.false_or, Bool.and_eq_true, decide_eq_true_eq] at h2
  refine ⟨h2.1, fun k hk => ?_⟩
  have h3 := List.all_eq_true.mp h2.2 k (List.mem_range.mpr hk)
  simp only [Bool.and_eq_true, decide_eq_true_eq] at h3
  exact ⟨h3.1.1, h3.1.2, h3.2⟩
theorem zLay_in {ci : Nat} (hc : ci < 13) : ∀ w ∈ u_ws (vwG ci).1 (vwG ci).2.1 (vwG ci).2.2, w ∈ zTb := zHasL_in (List.all_eq_true.mp zLay_ok ci (List.mem_range.mpr hc))
theorem zTy_fact {ci k : Nat} (hc : ci < 13) (hk : k < (vwG ci).2.2) : parseFieldDescriptor ((vwG ci).2.1 k).2.2.1 = some (zTyOf ci k) := by
  have h1 := List.all_eq_true.mp zTy_ok ci (List.mem_range.mpr hc)
  have h2 := List.all_eq_true.mp h1 k (List.mem_range.mpr hk)
  rw [Bool.and_eq_true] at h2
  exact of_decide_eq_true h2.1
theorem zKd_fact {ci k : Nat} (hc : ci < 13) (hk : k < (vwG ci).2.2) : (zFd ci k).2.2.2 = zFn ci k ∧ (zKd ci k = 0 → zTyOf ci k = .int) ∧ (zKd ci k = 1 → zTyOf ci k = .boolean) ∧ (zKd ci k = 2 → refKind (zTyOf ci k) = true) := by
  have h1 := List.all_eq_true.mp zKd_ok ci (List.mem_range.mpr hc)
  have h2 := List.all_eq_true.mp h1 k (List.mem_range.mpr hk)
  rw [Bool.and_eq_true] at h2
  refine ⟨of_decide_eq_true h2.1, fun e => ?_, fun e => ?_, fun e => ?_⟩
  · have := h2.2; rw [if_pos e] at this; exact of_decide_eq_true this
  · have := h2.2; rw [if_neg (by omega), if_pos e] at this; exact of_decide_eq_true this
  · have := h2.2; rw [if_neg (by omega), if_neg (by omega)] at this; exact this
theorem zNm_fact {ci : Nat} (hc : ci < 13) : ∀ a, a < (vwG ci).2.2 → ∀ b, b < (vwG ci).2.2 → a ≠ b → ((vwG ci).2.1 a).2.1 ≠ ((vwG ci).2.1 b).2.1 := by
  intro a ha b hb hab
  have h1 := List.all_eq_true.mp zNm_ok ci (List.mem_range.mpr hc)
  have h2 := List.all_eq_true.mp h1 a (List.mem_range.mpr ha)
  have h3 := List.all_eq_true.mp h2 b (List.mem_range.mpr hb)
  rw [Bool.or_eq_true, decide_eq_true_eq, decide_eq_true_eq] at h3
  rcases h3 with h | h
  · exact absurd h hab
  · exact h
theorem zDecl_ok : (List.range 13).all (fun y => (zSub y 3 && !(y == 3)) || (List.range (vwG y).2.2).all fun k => decide ((zFd y k).1 = zRn y)) = true := by decide +kernel
theorem zDecl {y k : Nat} (hy : y < 13) (h : (zSub y 3 && !(y == 3)) = false) (hk : k < (vwG y).2.2) : (zFd y k).1 = zRn y := by
  have h1 := List.all_eq_true.mp zDecl_ok y (List.mem_range.mpr hy)
  rw [h, Bool.false_or] at h1
  exact of_decide_eq_true (List.all_eq_true.mp h1 k (List.mem_range.mpr hk))
theorem zSame {own y ci x : Nat} {args : Array Value} {s : State} (hts : ∀ w ∈ zTb, w.before args s = true) (h : (zFd ci x).1 = zRn y ∨ Cond.sameField (zRn y) (zFd ci x).1 (zFd ci x).2.1 (zFd ci x).2.2.1 ∈ zTb) :
    ∀ z, s.fieldFound? ((vwG ci).2.1 x).1 ((vwG ci).2.1 x).2.1 ((vwG ci).2.1 x).2.2.1 = some z → s.fieldFound? (zRn y) ((vwG ci).2.1 x).2.1 ((vwG ci).2.1 x).2.2.1 = some z := by
  intro z hz
  rcases h with h | h
  · rw [← h]; exact hz
  · exact u_same (hts _ h) z hz
theorem zFR_kd {ci k : Nat} : (zKd ci k = 0 ∨ zKd ci k = 1 → zFR ci k = false) ∧ (zKd ci k = 2 → zFR ci k = true) := by
  unfold zKd
  cases zFR ci k
  · simp
    split <;> simp
  · simp
/-- behind a store into a row of ints -/
theorem zIv_arr {B : Nat} {D : va_G} {cA : Nat → ClassId} {L : Nat} {xs : Nat → Int32} {μ : zM} {H H1 : Heap} {a t n : Nat} {g : Nat → Int32} (hI : zIv B D cA L xs μ H) (hs : μ.1[a]? = some (t, n)) (ht : t = 20 ∨ t = 21)
    (hH : H1[B + a]? = some (vp_cell (cA (t - 20)) (n, .inl g))) (hz : H1.size = H.size) (oq : ∀ q : Nat, q ≠ B + a → H1[q]? = H[q]?) : zIv B D cA L xs (μ.1, row2 μ.2.1 a g, μ.2.2) H1 := by
  refine zIv_int hI hs hz (e := .inl (cA (t - 20), n, .inl g)) (hI.2.1.set zW_D (zW_get hs) hH oq) ?_
  have er : (fun j => row2 μ.2.1 a g a j) = g := by funext j; simp [row2]
  rcases ht with rfl | rfl
  · rw [zEn_i]; show Sum.inl (cA 0, n, Sum.inl (fun j => row2 μ.2.1 a g a j)) = _; rw [er]
  · rw [zEn_z]; show Sum.inl (cA 1, n, Sum.inl (fun j => row2 μ.2.1 a g a j)) = _; rw [er]
theorem vc_upd {cA : ClassId} {n i : Nat} {f : Nat → Int32} {x : Int32} : (vp_cell cA (n, .inl f)).setSlot i (.int x) = vp_cell cA (n, .inl (upd f i x)) := by
  rw [vp_cell_i, vp_cell_i, arrV_store]
  congr 1
  funext q
  by_cases hq : q = i
  · subst hq; simp [updV, upd]
  · simp [updV, upd, hq]
theorem vc_updq {cA : ClassId} {n i v : Nat} {f : Nat → Option Nat} : (vp_cell cA (n, .inr (.inr (.inr (.inr f))))).setSlot i (.ref v) = vp_cell cA (n, .inr (.inr (.inr (.inr (va_up f i (some v)))))) := by
  rw [vp_cell_q, vp_cell_q, arrV_store]
  congr 1
  funext q
  by_cases hq : q = i
  · subst hq; simp [updV, va_up, va_rf]
  · simp [updV, va_up, hq]
section ZS
variable {p : Program} {l : Launch} {ev : Env} {R : Room} {s : State} {m : MethodId} {args : Array Value} {below : List Frame} {meth : Method} {c : Code} {Q : State → Prop}
variable {cc : ByteArray} {own nL : Nat} {ret : Option FieldType} {init : Bool} {cd : List zE} {B : Nat} {D : va_G} {cA : Nat → ClassId} {ext : Nat → Nat} {L : Nat} {xs : Nat → Int32} {d : Nat} {Rr : zOr}
variable {L0 S0 : Nat} {μF : zM}

set_option maxHeartbeats 1000000 in
theorem zs_iaload {pc x y : Nat} {w : Int32} {t : List Nat} : zOne p l ev R s m args below meth c Q cc own nL ret init cd B D cA ext L xs d Rr μF L0 S0 (pc, .iaload, x, y, w, t) := by
  intro C hR ip ls st μ H locs lsA cells slots K Z hd hn0 ho h hI hS hl hc hs hF hFs hle hk hz
  obtain ⟨hx, hb, hml, hown, hts, hK, hX, hch, hin, hfr, hlo⟩ := C
  have hn : zPc cd (ip + 1) = pc + 1 := hn0 rfl
  simp only [zStep] at h
  split at h
  · rename_i i a st
    cases hs0 : μ.1[a]? with
    | none =>
      rw [hs0] at h
      simp only [Option.elim_none] at h
      split at h
      · rename_i ha
        subst ha
        obtain ⟨h1, h2⟩ := h
        obtain ⟨-, -, -, -, hv, hv1, hv2, hv3, -⟩ := hX
        rw [hI.2.2.2.2.2.2, nI_clamp hv2] at h1
        have hw := hk _ _ _ _ _ _ _ _ _ h2 hI hS hl hc hs
        rw [hn] at hw
        rw [hI.2.2.2.2.2.1] at hw
        show W _ _ _ _ _ _ _ _ _ _ _ _ _ _ _ (F0 m pc lsA (.int i :: .ref (ext 2000000) :: st.map (zc B ext)))
        exact va_sld hx hb hv (by omega) (by show ¬ B ≤ ext 2000000; omega) hS h1 hd hw
      · exact h.elim
    | some s0 =>
    rw [hs0] at h
    simp only [Option.elim_some] at h
    have ra := zFr hI hs0
    obtain ⟨t0, n0⟩ := s0
    cases h20 : t0 == 20 with
    | false => simp [h20] at h
    | true =>
    simp only [h20, cond_true] at h
    obtain rfl : t0 = 20 := by simpa using h20
    obtain ⟨h1, h⟩ := h
    rw [List.map_cons, List.map_cons, zc_r ra]
    have he := zW_get (B := B) (cA := cA) hs0
    rw [zEn_i] at he
    refine va_iald hx hb hK hI.2.1 a 0 he rfl h1 hd ?_
    have hw := hk _ _ _ _ _ _ _ _ _ h hI hS hl hc hs
    rw [hn] at hw
    exact hw
  · exact h.elim

set_option maxHeartbeats 1000000 in
theorem zs_baload {pc x y : Nat} {w : Int32} {t : List Nat} : zOne p l ev R s m args below meth c Q cc own nL ret init cd B D cA ext L xs d Rr μF L0 S0 (pc, .baload, x, y, w, t) := by
  intro C hR ip ls st μ H locs lsA cells slots K Z hd hn0 ho h hI hS hl hc hs hF hFs hle hk hz
  obtain ⟨hx, hb, hml, hown, hts, hK, hX, hch, hin, hfr, hlo⟩ := C
  have hn : zPc cd (ip + 1) = pc + 1 := hn0 rfl
  simp only [zStep] at h
  split at h
  · rename_i i a st
    cases hs0 : μ.1[a]? with
    | none => rw [hs0] at h; exact h.elim
    | some s0 =>
    rw [hs0] at h
    simp only [Option.elim_some] at h
    have ra := zFr hI hs0
    obtain ⟨t0, n0⟩ := s0
    cases h20 : t0 == 21 with
    | false => simp [h20] at h
    | true =>
    simp only [h20, cond_true] at h
    obtain rfl : t0 = 21 := by simpa using h20
    obtain ⟨h1, h⟩ := h
    rw [List.map_cons, List.map_cons, zc_r ra]
    have he := zW_get (B := B) (cA := cA) hs0
    rw [zEn_z] at he
    refine va_zald hx hb hK hI.2.1 a 1 he rfl h1 hd ?_
    have hw := hk _ _ _ _ _ _ _ _ _ h hI hS hl hc hs
    rw [hn] at hw
    exact hw
  · exact h.elim

set_option maxHeartbeats 1000000 in
theorem zs_iastore {pc x y : Nat} {w : Int32} {t : List Nat} : zOne p l ev R s m args below meth c Q cc own nL ret init cd B D cA ext L xs d Rr μF L0 S0 (pc, .iastore, x, y, w, t) := by
  intro C hR ip ls st μ H locs lsA cells slots K Z hd hn0 ho h hI hS hl hc hs hF hFs hle hk hz
  obtain ⟨hx, hb, hml, hown, hts, hK, hX, hch, hin, hfr, hlo⟩ := C
  have hn : zPc cd (ip + 1) = pc + 1 := hn0 rfl
  simp only [zStep] at h
  split at h
  · rename_i v i a st
    cases hs0 : μ.1[a]? with
    | none => rw [hs0] at h; exact h.elim
    | some s0 =>
    rw [hs0] at h
    simp only [Option.elim_some] at h
    have ra := zFr hI hs0
    obtain ⟨t0, n0⟩ := s0
    cases h20 : t0 == 20 with
    | false => simp [h20] at h
    | true =>
    simp only [h20, cond_true] at h
    obtain rfl : t0 = 20 := by simpa using h20
    obtain ⟨h1, h⟩ := h
    rw [up2_row] at h
    rw [List.map_cons, List.map_cons, List.map_cons, zc_r ra]
    have he := zW_get (B := B) (cA := cA) hs0
    rw [zEn_i] at he
    refine W.iast hx hb (hI.2.1 a _ he) ((hK.2 0 _ rfl).1 n0 (fun j => .int (μ.2.1 a j))) (fun q => by cases q) (by show ¬ (i < 0 ∨ (arrV _ _ _).slots.size ≤ _); rw [arrV_size]; exact h1) rfl rfl hd fun H1 e z oq => ?_
    have e : H1[B + a]? = some (vp_cell (cA (20 - 20)) (n0, .inl (upd (μ.2.1 a) i.toNatClampNeg v))) := by
      rw [e]
      exact congrArg some vc_upd
    have hw := hk _ _ _ _ _ _ _ _ _ h (zIv_arr hI hs0 (Or.inl rfl) e z oq) (hS.put (k := i.toNatClampNeg) z oq (Nat.le_add_right _ _)) hl hc hs
    rw [hn] at hw
    exact hw
  · exact h.elim

set_option maxHeartbeats 1000000 in
theorem zs_bastore {pc x y : Nat} {w : Int32} {t : List Nat} : zOne p l ev R s m args below meth c Q cc own nL ret init cd B D cA ext L xs d Rr μF L0 S0 (pc, .bastore, x, y, w, t) := by
  intro C hR ip ls st μ H locs lsA cells slots K Z hd hn0 ho h hI hS hl hc hs hF hFs hle hk hz
  obtain ⟨hx, hb, hml, hown, hts, hK, hX, hch, hin, hfr, hlo⟩ := C
  have hn : zPc cd (ip + 1) = pc + 1 := hn0 rfl
  simp only [zStep] at h
  split at h
  · rename_i v i a st
    cases hs0 : μ.1[a]? with
    | none => rw [hs0] at h; exact h.elim
    | some s0 =>
    rw [hs0] at h
    simp only [Option.elim_some] at h
    have ra := zFr hI hs0
    obtain ⟨t0, n0⟩ := s0
    cases h20 : t0 == 21 with
    | false => simp [h20] at h
    | true =>
    simp only [h20, cond_true] at h
    obtain rfl : t0 = 21 := by simpa using h20
    obtain ⟨h1, hv, h⟩ := h
    rw [up2_row] at h
    rw [List.map_cons, List.map_cons, List.map_cons, zc_r ra]
    have he := zW_get (B := B) (cA := cA) hs0
    rw [zEn_z] at he
    refine W.zast hx hb (hI.2.1 a _ he) ((hK.2 1 _ rfl).1 n0 (fun j => .int (μ.2.1 a j))) (fun q => by cases q) (by show ¬ (i < 0 ∨ (arrV _ _ _).slots.size ≤ _); rw [arrV_size]; exact h1) rfl rfl hd fun H1 e z oq => ?_
    have e : H1[B + a]? = some (vp_cell (cA (21 - 20)) (n0, .inl (upd (μ.2.1 a) i.toNatClampNeg v))) := by
      rw [e]
      exact congrArg some ((congrArg (fun z => Cell.setSlot _ _ z) (show narrow .boolean (.int v) = .int v by rcases hv with rfl | rfl <;> rfl)).trans vc_upd)
    have hw := hk _ _ _ _ _ _ _ _ _ h (zIv_arr hI hs0 (Or.inr rfl) e z oq) (hS.put (k := i.toNatClampNeg) z oq (Nat.le_add_right _ _)) hl hc hs
    rw [hn] at hw
    exact hw
  · exact h.elim

set_option maxHeartbeats 1000000 in
theorem zs_aaload {pc x y : Nat} {w : Int32} {t : List Nat} : zOne p l ev R s m args below meth c Q cc own nL ret init cd B D cA ext L xs d Rr μF L0 S0 (pc, .aaload, x, y, w, t) := by
  intro C hR ip ls st μ H locs lsA cells slots K Z hd hn0 ho h hI hS hl hc hs hF hFs hle hk hz
  obtain ⟨hx, hb, hml, hown, hts, hK, hX, hch, hin, hfr, hlo⟩ := C
  have hn : zPc cd (ip + 1) = pc + 1 := hn0 rfl
  simp only [zStep] at h
  split at h
  · rename_i i a st
    cases hs0 : μ.1[a]? with
    | none => rw [hs0] at h; exact h.elim
    | some s0 =>
    rw [hs0] at h
    simp only [Option.elim_some] at h
    have ra := zFr hI hs0
    obtain ⟨t0, n0⟩ := s0
    cases h20 : (decide (22 ≤ t0) && decide (t0 ≤ 25)) with
    | false => simp [h20] at h
    | true =>
    simp only [h20, cond_true] at h
    simp only [Bool.and_eq_true, decide_eq_true_eq] at h20
    obtain ⟨h1, h⟩ := h
    rw [List.map_cons, List.map_cons, zc_r ra]
    have he := zW_get (B := B) (cA := cA) hs0
    rw [zEn_q h20.1] at he
    have hlt : i.toNatClampNeg < n0 := Nat.not_le.mp fun q => h1 (Or.inr q)
    have hty : ∃ ty, (zTys cA)[t0 - 20]? = some (cA (t0 - 20), ty) ∧ ty.isReference = true := by
      have : t0 = 22 ∨ t0 = 23 ∨ t0 = 24 ∨ t0 = 25 := by omega
      rcases this with rfl | rfl | rfl | rfl <;> exact ⟨_, rfl, rfl⟩
    obtain ⟨ty, hty, hrf⟩ := hty
    refine W.aald (v := va_rf ((μ.2.2 a i.toNatClampNeg).map (fun q => B + q))) (ty := ty) hx hb (hI.2.1 a _ he) ((hK.2 _ _ hty).1 n0 (fun j => va_rf ((μ.2.2 a j).map (fun q => B + q)))) hrf (fun q => by cases q) (by show ¬ (i < 0 ∨ (arrV _ _ _).slots.size ≤ _); rw [arrV_size]; exact h1) (by show (arrV _ _ _).slots[_]? = _; rw [arrV_read _ _ hlt]) rfl rfl hd ?_
    cases hq : μ.2.2 a i.toNatClampNeg with
    | none =>
      rw [hq] at h
      have hw := hk _ _ _ _ _ _ _ _ _ h hI hS hl hc hs
      rw [hn] at hw
      exact hw
    | some q =>
      rw [hq] at h
      have hw := hk _ _ _ _ _ _ _ _ _ h hI hS hl hc hs
      rw [hn, List.map_cons, zc_r (hI.2.2.2.1 _ _ _ hq)] at hw
      exact hw
  · exact h.elim

set_option maxHeartbeats 1000000 in
theorem zs_arraylength {pc x y : Nat} {w : Int32} {t : List Nat} : zOne p l ev R s m args below meth c Q cc own nL ret init cd B D cA ext L xs d Rr μF L0 S0 (pc, .arraylength, x, y, w, t) := by
  intro C hR ip ls st μ H locs lsA cells slots K Z hd hn0 ho h hI hS hl hc hs hF hFs hle hk hz
  obtain ⟨hx, hb, hml, hown, hts, hK, hX, hch, hin, hfr, hlo⟩ := C
  have hn : zPc cd (ip + 1) = pc + 1 := hn0 rfl
  simp only [zStep] at h
  split at h
  · rename_i a st
    cases hs0 : μ.1[a]? with
    | none =>
      rw [hs0] at h
      simp only [Option.elim_none] at h
      split at h
      · rename_i ha
        subst ha
        obtain ⟨-, -, -, -, hv, hv1, hv2, hv3, -⟩ := hX
        have hw := hk _ _ _ _ _ _ _ _ _ h hI hS hl hc hs
        rw [hn] at hw
        rw [hI.2.2.2.2.2.2] at hw
        show W _ _ _ _ _ _ _ _ _ _ _ _ _ _ _ (F0 m pc lsA (.ref (ext 2000000) :: st.map (zc B ext)))
        exact va_slen hx hb hv (by omega) (by show ¬ B ≤ ext 2000000; omega) hS hd hw
      · exact h.elim
    | some s0 =>
    rw [hs0] at h
    simp only [Option.elim_some] at h
    have ra := zFr hI hs0
    obtain ⟨t0, n0⟩ := s0
    cases h20 : (decide (20 ≤ t0) && decide (t0 ≤ 25)) with
    | false => simp [h20] at h
    | true =>
    simp only [h20, cond_true] at h
    simp only [Bool.and_eq_true, decide_eq_true_eq] at h20
    rw [List.map_cons, zc_r ra]
    have he : ∃ v, (zW B cA μ)[a]? = some (B + a, .inl (cA (t0 - 20), n0, v)) := by
      have he := zW_get (B := B) (cA := cA) hs0
      have : t0 = 20 ∨ t0 = 21 ∨ 22 ≤ t0 := by omega
      rcases this with rfl | rfl | hh
      · rw [zEn_i] at he; exact ⟨_, he⟩
      · rw [zEn_z] at he; exact ⟨_, he⟩
      · rw [zEn_q hh] at he; exact ⟨_, he⟩
    obtain ⟨v, he⟩ := he
    have hty : ∃ ty, (zTys cA)[t0 - 20]? = some (cA (t0 - 20), ty) := by
      have : t0 = 20 ∨ t0 = 21 ∨ t0 = 22 ∨ t0 = 23 ∨ t0 = 24 ∨ t0 = 25 := by omega
      rcases this with rfl | rfl | rfl | rfl | rfl | rfl <;> exact ⟨_, rfl⟩
    obtain ⟨ty, hty⟩ := hty
    refine va_alen hx hb hK hI.2.1 a _ he hty rfl hd ?_
    have hw := hk _ _ _ _ _ _ _ _ _ h hI hS hl hc hs
    rw [hn] at hw
    exact hw
  · exact h.elim

set_option maxHeartbeats 1000000 in
theorem zs_getfield {n : Nat} {pc x y : Nat} {w : Int32} {t : List Nat} : zOne p l ev R s m args below meth c Q cc own nL ret init cd B D cA ext L xs d Rr μF L0 S0 (pc, .getfield n, x, y, w, t) := by
  intro C hR ip ls st μ H locs lsA cells slots K Z hd hn0 ho h hI hS hl hc hs hF hFs hle hk hz
  obtain ⟨hx, hb, hml, hown, hts, hK, hX, hch, hin, hfr, hlo⟩ := C
  have hn : zPc cd (ip + 1) = pc + 3 := hn0 rfl
  unfold zOpk at ho
  simp only [Bool.and_eq_true, decide_eq_true_eq] at ho
  obtain ⟨⟨hy, ha⟩, hr⟩ := ho
  simp only [zStep] at h
  split at h
  · rename_i r st
    cases hs0 : μ.1[r]? with
    | none => rw [hs0] at h; exact h.elim
    | some s0 =>
    rw [hs0] at h
    simp only [Option.elim_some] at h
    have ra := zFr hI hs0
    obtain ⟨ci, n0⟩ := s0
    cases hsb : zSub ci y with
    | false => simp [hsb] at h
    | true =>
    simp only [hsb, cond_true] at h
    have hci := zSub_lt hsb hy
    obtain ⟨hxN, hlk, hsm⟩ := zF_fact ha hci hsb
    have hN : n0 = (vwG ci).2.2 := by
      rcases hI.2.2.1 r _ hs0 with q | q
      · exact q.2
      · exact absurd q.1 (by show ¬ 20 ≤ ci; omega)
    rw [List.map_cons, zc_r ra]
    have he := zW_get (B := B) (cA := cA) hs0
    rw [zEn_o hci] at he
    have hfr2 := ((zSub_fact hci hy hsb).2 x hxN).2.1
    refine va_get (own := zRn own) (ref := zRn y) (index := n) hx hb hts (zLay_in hci) hown hK hI.2.1 r he (vw_at hci) x hxN (hts _ hlk) (zSame (own := own) hts hsm) (zFs_get (by rw [hN]; exact hxN)) hd ?_
    cases t with
    | nil =>
      have hr : zFR ci x = false := by rw [hfr2]; simpa using hr
      rw [if_neg (by rw [hr]; decide)]
      have hw := hk _ _ _ _ _ _ _ _ _ h hI hS hl hc hs
      rw [hn] at hw
      exact hw
    | cons t1 t2 =>
      have hr : zFR ci x = true := by rw [hfr2]; exact hr
      rw [if_pos hr]
      simp only at h
      cases hq : μ.2.2 r x with
      | none =>
        rw [hq] at h
        have hw := hk _ _ _ _ _ _ _ _ _ h hI hS hl hc hs
        rw [hn] at hw
        exact hw
      | some q =>
        rw [hq] at h
        have hw := hk _ _ _ _ _ _ _ _ _ h hI hS hl hc hs
        rw [hn, List.map_cons, zc_r (hI.2.2.2.1 _ _ _ hq)] at hw
        exact hw
  · exact h.elim

theorem zPutF {pc r x ci n own y : Nat} {ty : FieldType} {v : Value} {lsA : Array Slot} {st : List Value} {μ : zM} {H : Heap} {locs : List Loc} {cells slots : Nat} {fs : List Value} (hx : p.tables.exec = Jvm.exec) (hb : c.code = cc) (hts : ∀ w ∈ zTb, w.before args s = true) (hci : ci < 13) (hown : s.vm.findClass (zRn own) = some m.cls) (hK : va_K D vwCl (zTys cA) s) (hP : va_P D vwCl (zW B cA μ) H) (hS : va_S (fun q => B ≤ q) s.heap H locs)
    (he : (zW B cA μ)[r]? = some (B + r, .inr (ci, fs))) (hxN : x < (vwG ci).2.2) (hfl : x < fs.length) (hlk : (Cond.fieldLink (zRn own) n (zRn y) (zFd ci x).2.1 (zFd ci x).2.2.1).before args s = true)
    (hsm : ∀ z, s.fieldFound? ((vwG ci).2.1 x).1 ((vwG ci).2.1 x).2.1 ((vwG ci).2.1 x).2.2.1 = some z → s.fieldFound? (zRn y) ((vwG ci).2.1 x).2.1 ((vwG ci).2.1 x).2.2.1 = some z)
    (hfin : (zFd ci x).2.2.2 = true → meth.name = "<init>" ∧ (zFd ci x).1 = zRn own) (hty : zTyOf ci x = ty) (hn : narrow ty v = v) (hfit : fits ty v = true) (hd : decode cc pc = .ok (.putfield n, 3))
    (kk : ∀ (H1 : Heap) (locs1 : List Loc), va_P D vwCl ((zW B cA μ).set r (B + r, .inr (ci, fs.set x v))) H1 → H1.size = H.size → va_S (fun q => B ≤ q) s.heap H1 locs1 → W p l ev R s m args below meth c H1 locs1 cells slots Q (F0 m (pc + 3) lsA st)) :
    W p l ev R s m args below meth c H locs cells slots Q (F0 m pc lsA (v :: .ref (B + r) :: st)) := by
  have hin := zLay_in hci
  have hdd := zTy_fact hci hxN
  rw [hty] at hdd
  have hap := va_apart (own := zRn own) hts hin (zTyOf ci) (fun k hk => zTy_fact hci hk) (zNm_fact hci) hK (vw_at hci)
  obtain ⟨r0, h1, cell, q1, q2, q3, q4⟩ := hP r _ he
  obtain rfl : r0 = ((vwG ci).1, (vwG ci).2.1, (vwG ci).2.2) := Option.some.inj (h1.symm.trans (vw_at hci))
  obtain ⟨hSl, hfc, kC, hkC, hkind⟩ := hK.1 ci _ (vw_at hci)
  obtain ⟨cf, kf, fi, f, hi, hsl⟩ := hSl x hxN
  have hlay := hts _ (hin _ (u_in_lay hxN))
  unfold u_lay at hlay
  have hst := (u_facts hfc hkC (u_lays hts hin hxN) hi).1
  have fin : ∀ (H' : Heap), H'[B + r]? = some (cell.setSlot f.slot v) → H'.size = H.size → (∀ q, q ≠ B + r → H'[q]? = H[q]?) → W p l ev R s m args below meth c H' (locs ++ [⟨B + r, f.slot⟩]) cells slots Q (F0 m (pc + 3) lsA st) := by
    intro H' e1 e2 e3
    rw [hsl] at e1 ⊢
    exact kk H' _ (hP.set zW_D he ⟨_, vw_at hci, t_OB.to (V := updV (vp_V fs) x v) ⟨_, e1, q2, q3, t_set q4 hap hxN v⟩ (fun j _ => vp_updV_set hfl v j)⟩ e3) e2 (hS.put e2 e3 (Nat.le_add_right _ _))
  by_cases hff : ((vwG ci).2.1 x).2.2.2 = true
  · rw [if_pos hff] at hlay
    obtain ⟨hin2, hdecl⟩ := hfin hff
    have hcf : m.cls = cf := by
      obtain ⟨_, _, c', _, _, _, -, -, hf', -, -, -, hown2, -⟩ := Cond.laysFinal_spec hlay
      have e1 : c' = cf := by have := hi.symm.trans hf'; simp at this; exact this.1.symm
      have hdecl : ((vwG ci).2.1 x).1 = zRn own := hdecl
      rw [hdecl] at hown2
      rw [← e1]; exact Option.some.inj (hown.symm.trans hown2)
    have h6 := u_fits hfc hkC hkind (Or.inr hlay) hi hdd hn hfit
    exact W.putFinK hx hb hown hlk (hsm _ hi) hst hcf hin2 (by rw [q2]; exact h6) q1 q3 (by rw [hsl]; exact k2_hasslot (q4 x hxN)) rfl rfl hd fin
  · rw [if_neg hff] at hlay
    have h6 := u_store hfc hkC hkind hlay hi hdd hn hfit
    exact W.putK hx hb (f := f) ⟨hown, hlk, ⟨_, _, _, hsm _ hi⟩, hst⟩ (by rw [q2]; exact h6) q1 q3 (by rw [hsl]; exact k2_hasslot (q4 x hxN)) rfl rfl hd fin

set_option maxHeartbeats 1000000 in
theorem zs_putfield {n : Nat} {pc x y : Nat} {w : Int32} {t : List Nat} : zOne p l ev R s m args below meth c Q cc own nL ret init cd B D cA ext L xs d Rr μF L0 S0 (pc, .putfield n, x, y, w, t) := by
  intro C hR ip ls st μ H locs lsA cells slots K Z hd hn0 ho h hI hS hl hc hs hF hFs hle hk hz
  obtain ⟨hx, hb, hml, hown, hts, hK, hX, hch, hin, hfr, hlo⟩ := C
  have hn : zPc cd (ip + 1) = pc + 3 := hn0 rfl
  unfold zOpk at ho
  simp only [Bool.and_eq_true, Bool.or_eq_true, decide_eq_true_eq, beq_iff_eq, Bool.not_eq_true'] at ho
  obtain ⟨⟨⟨hy, ha⟩, hr⟩, hfn⟩ := ho
  have common : ∀ (r : Nat) (s0 : Nat × Nat), μ.1[r]? = some s0 → zSub s0.1 y = true → s0.1 < 13 ∧ s0.2 = (vwG s0.1).2.2 ∧ x < (vwG s0.1).2.2 ∧ Cond.fieldLink (zRn own) n (zRn y) (zFd s0.1 x).2.1 (zFd s0.1 x).2.2.1 ∈ zTb ∧ ((zFd s0.1 x).1 = zRn y ∨ Cond.sameField (zRn y) (zFd s0.1 x).1 (zFd s0.1 x).2.1 (zFd s0.1 x).2.2.1 ∈ zTb) ∧ ((zFd s0.1 x).2.2.2 = true → meth.name = "<init>" ∧ (zFd s0.1 x).1 = zRn own) ∧ zKd s0.1 x = zKd y x := by
    intro r s0 hs0 hsb
    obtain ⟨ci, n0⟩ := s0
    have hci := zSub_lt hsb hy
    obtain ⟨hxN, hlk, hsm⟩ := zF_fact ha hci hsb
    have hsf := (zSub_fact hci hy hsb).2 x hxN
    refine ⟨hci, ?_, hxN, hlk, hsm, fun hf => ?_, hsf.2.2⟩
    · rcases hI.2.2.1 r _ hs0 with q | q
      · exact q.2
      · exact absurd q.1 (by show ¬ 20 ≤ ci; omega)
    · have hxy : x < (vwG y).2.2 := by rw [← (zSub_fact hci hy hsb).1]; exact hxN
      have hf : (zFd ci x).2.2.2 = true := hf
      rw [hsf.1, (zKd_fact hy hxy).1] at hf
      rcases hfn with q | q
      · rw [hf] at q; cases q
      · refine ⟨hin q.1.1, ?_⟩
        show (zFd ci x).1 = _
        rw [hsf.1, zDecl hy q.2 hxy, q.1.2]
  simp only [zStep] at h
  split at h
  · rename_i a r st
    cases hs0 : μ.1[r]? with
    | none => rw [hs0] at h; exact h.elim
    | some s0 =>
    rw [hs0] at h
    simp only [Option.elim_some] at h
    have ra := zFr hI hs0
    cases hsb : zSub s0.1 y with
    | false => simp [hsb] at h
    | true =>
    simp only [hsb, cond_true] at h
    obtain ⟨hci, hN, hxN, hlk, hsm, hfin, hkd⟩ := common r s0 hs0 hsb
    have he := zW_get (B := B) (cA := cA) hs0
    rw [show s0 = (s0.1, s0.2) from rfl, zEn_o hci] at he
    have key : ∀ ty, zTyOf s0.1 x = ty → narrow ty (.int a) = .int a → fits ty (.int a) = true → zFR s0.1 x = false → K (ip + 1) ls st (μ.1, up2 μ.2.1 r x a, μ.2.2) → W p l ev R s m args below meth c H locs cells slots Q (F0 m pc lsA ((Value.int a :: .ref r :: st).map (zc B ext))) := by
      intro ty h1 h2 h3 h4 h5
      rw [List.map_cons, List.map_cons, zc_r ra]
      refine zPutF (own := own) (y := y) hx hb hts hci hown hK hI.2.1 hS he hxN (by rw [zFs_len, hN]; exact hxN) (hts _ hlk) (zSame (own := own) hts hsm) hfin (v := .int a) h1 h2 h3 hd fun H1 locs1 hP1 hz1 hS1 => ?_
      rw [zFs_seti h4] at hP1
      rw [up2_row] at h5 hP1
      have hw := hk _ _ _ _ _ _ _ _ _ h5 (zIv_int hI hs0 hz1 hP1 (by rw [show s0 = (s0.1, s0.2) from rfl, zEn_o hci])) hS1 hl hc hs
      rw [hn] at hw
      exact hw
    split at h
    · have hr : zKd y x = 0 := by simpa using hr
      rw [← hkd] at hr
      exact key _ ((zKd_fact hci hxN).2.1 hr) rfl rfl (zFR_kd.1 (Or.inl hr)) h
    · have hr : zKd y x = 1 := by simpa using hr
      rw [← hkd] at hr
      exact key _ ((zKd_fact hci hxN).2.2.1 hr) (by rcases h.1 with e | e <;> rw [e] <;> rfl) (by rcases h.1 with e | e <;> rw [e] <;> rfl) (zFR_kd.1 (Or.inr hr)) h.2
    · exact h.elim
  · rename_i q r st
    cases hq0 : μ.1[q]? with
    | none => rw [hq0] at h; exact h.elim
    | some z0 =>
    rw [hq0] at h
    simp only [Option.elim_some] at h
    cases hs0 : μ.1[r]? with
    | none => rw [hs0] at h; exact h.elim
    | some s0 =>
    rw [hs0] at h
    simp only [Option.elim_some] at h
    have ra := zFr hI hs0
    have rq := zFr hI hq0
    cases hsb : zSub s0.1 y with
    | false => simp [hsb] at h
    | true =>
    simp only [hsb, cond_true] at h
    obtain ⟨hci, hN, hxN, hlk, hsm, hfin, hkd⟩ := common r s0 hs0 hsb
    have he := zW_get (B := B) (cA := cA) hs0
    rw [show s0 = (s0.1, s0.2) from rfl, zEn_o hci] at he
    split at h
    · have hr : zKd y x = 2 := by simpa using hr
      rw [← hkd] at hr
      have h4 := zFR_kd.2 hr
      have hrk := (zKd_fact hci hxN).2.2.2 hr
      rw [List.map_cons, List.map_cons, zc_r ra, zc_r rq]
      refine zPutF (own := own) (y := y) hx hb hts hci hown hK hI.2.1 hS he hxN (by rw [zFs_len, hN]; exact hxN) (hts _ hlk) (zSame (own := own) hts hsm) hfin rfl (by generalize zTyOf s0.1 x = ty at hrk ⊢; cases ty <;> first | rfl | cases hrk) (by generalize zTyOf s0.1 x = ty at hrk ⊢; cases ty <;> first | rfl | cases hrk) hd fun H1 locs1 hP1 hz1 hS1 => ?_
      rw [zFs_setr h4] at hP1
      have hw := hk _ _ _ _ _ _ _ _ _ h (zIv_ref hI hs0 hz1 rq hP1 (by rw [show s0 = (s0.1, s0.2) from rfl, zEn_o hci])) hS1 hl hc hs
      rw [hn] at hw
      exact hw
    · exact h.elim
  · exact h.elim

end ZS
