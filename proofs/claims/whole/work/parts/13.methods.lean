/-! METHODS: what the machine answers, the bytecode answers -/
noncomputable def zEv : Nat → zOr
  | 0 => fun _ _ _ _ _ => False
  | d + 1 => fun key as μ v μ' => (lg_sl as).length ≤ zml key ∧ ∃ n, zRun zDyn (zEv d) (zCodes.getD key []) n 0 (lv_args 0 as) [] μ (fun a b => a = v ∧ b = μ')
theorem zEv_le : ∀ (d x : Nat) (as : List Value) (μ : zM) (v : Option Value) (μ' : zM), zEv d x as μ v μ' → zLe μ μ'
  | 0, _, _, _, _, _, h => h.elim
  | d + 1, x, as, μ, v, μ', h => by
    obtain ⟨-, n, h⟩ := h
    exact zRun_le (zEv_le d) (fun v μ h => by rw [h.2]; exact zLe.rf) n _ _ _ _ h
def zIniL : List Nat := [0, 2, 4, 6, 10, 12, 14, 18, 39, 42, 62, 64, 135]
def zIni (x : Nat) : Bool := zIniL.contains x
theorem zIni_nm : zIniL.all (fun x => decide ((zy x).name = "<init>")) = true := by decide +kernel
theorem zIni_name {x : Nat} (h : zIni x = true) : (zy x).name = "<init>" := by
  have : x ∈ zIniL := by simpa [zIni] using h
  exact of_decide_eq_true (List.all_eq_true.mp zIni_nm x this)
theorem zow_lt : (List.range 228).all (fun x => decide (zow x < 16)) = true := by decide +kernel
theorem zPlain : (List.range 16).all (fun k => plainName (zRn k)) = true := by decide +kernel
theorem zPc0 : (List.range 228).all (fun x => decide (zPc (zCodes.getD x []) 0 = 0)) = true := by decide +kernel
theorem lv_args_map {B : Nat} {ext : Nat → Nat} : ∀ (as : List Value) (i : Nat), lv_args i (as.map (zc B ext)) = (lv_args i as).map fun q => (q.1, zc B ext q.2)
  | [], _ => rfl
  | v :: as, i => by
    simp only [List.map_cons, lv_args]
    rw [lv_args_map as, zc_cat]
theorem lg_sl_map {B : Nat} {ext : Nat → Nat} (as : List Value) : (lg_sl (as.map (zc B ext))).length = (lg_sl as).length := by
  induction as with
  | nil => rfl
  | cons v as ih =>
    simp only [List.map_cons, lg_sl, List.flatMap_cons, List.length_append] at ih ⊢
    rw [ih, zc_cat]
    congr 1
    split <;> rfl
/-- every method's code is checked -/
def zAllOk : Prop := ∀ x, x < 227 → zAll (zby x) (zow x) (zml x) (zrt x) (zIni x) (zCodes.getD x [])
theorem zSound (hall : zAllOk) {l : Launch} {B : Nat} {D : va_G} {cA : Nat → ClassId} {ext : Nat → Nat} {L : Nat} {xs : Nat → Int32} : ∀ (d x : Nat) (as : List Value) (μ : zM) (v : Option Value) (μ' : zM), zEv d x as μ v μ' → x < 227 → zLe μ μ' ∧ zMet l B D cA ext L xs d x as μ v μ'
  | 0, _, _, _, _, _, h, _ => h.elim
  | d + 1, x, as, μ, v, μ', h, hx227 => by
    have hle := zEv_le (d + 1) x as μ v μ' h
    refine ⟨hle, ?_⟩
    obtain ⟨hlen, n, hrun⟩ := h
    have hpl : plainName (zy x).cls = true := by
      rw [zCls hx227]
      exact List.all_eq_true.mp zPlain _ (List.mem_range.mpr (of_decide_eq_true (List.all_eq_true.mp zow_lt x (List.mem_range.mpr (by omega)))))
    refine Met.ofW (cc := zby x) (maxL := zml x) (ret := zrt x) hpl rfl ?_
    intro p e s m args below meth c s₁ B0 hml hv
    obtain ⟨rfl, hI, hK, hX⟩ := hv
    have hts := atoms_spec (ws := zcd x :: zTb) B0.pre
    have hown : s.vm.findClass (zRn (zow x)) = some m.cls := by rw [← zCls hx227]; exact findClass_of_methodNamed B0.named
    have hnm : meth.name = (zy x).name := (name_of_methodNamed B0.named B0.method).1
    have hC : zCtx p (headSpec (zcd x :: zTb) { frames := d + 1 + 10, cells := μ'.1.length - μ.1.length, slots := zSl μ' - zSl μ, locals := 64 * (d + 1) + 1000 }).room s m (as.map (zc B ext)).toArray meth c (zby x) (zow x) (zml x) (zrt x) (zIni x) (zCodes.getD x []) B D cA ext L xs d :=
      ⟨B0.exec, B0.bytes, hml, hown, fun w hw => hts w (List.mem_cons_of_mem _ hw), hK, hX, hall x hx227, fun h => hnm.trans (zIni_name h), by show d + 11 ≤ d + 1 + 10; omega, by show 64 * d + 1064 ≤ 64 * (d + 1) + 1000; omega⟩
    have hlocks := B0.notSynchronized
    have hr := B0.returns
    have hl := lv_entry (as.map (zc B ext)) (n := zml x) (by rw [lg_sl_map]; exact hlen)
    rw [lg_entry_eq]
    generalize (lg_sl (as.map (zc B ext)) ++ List.replicate (zml x - (lg_sl (as.map (zc B ext))).length) Slot.unset).toArray = ls at hl ⊢
    rw [lv_args_map] at hl
    have hz0 : zPc (zCodes.getD x []) 0 = 0 := of_decide_eq_true (List.all_eq_true.mp zPc0 x (List.mem_range.mpr (by omega)))
    have key := zRun_sound (l := l) (ev := e) (below := below) (Q := MQ below (zQ B D cA ext L xs v μ') (as.map (zc B ext)).toArray s (μ'.1.length - μ.1.length) (zSl μ' - zSl μ) (fun q => B ≤ q)) (L0 := μ.1.length) (S0 := zSl μ) (μF := μ') (vF := v) hC (fun x as μ v μ' h h2 => zSound hall d x as μ v μ' h h2) (zEv_le d) (by show μ'.1.length ≤ μ.1.length + (μ'.1.length - μ.1.length); have := hle.1; omega) (by show zSl μ' ≤ zSl μ + (zSl μ' - zSl μ); have := hle.2; omega) ?_ n 0 (lv_args 0 as) [] μ s.heap [] ls 0 0 hrun hI va_S.rf hl (by omega) (by omega)
    · rw [hz0] at key
      exact key
    · intro ins pc H locs lsA cells slots hcl hsl hI2 hS2 hd hrt
      obtain rfl : cells = μ'.1.length - μ.1.length := by omega
      obtain rfl : slots = zSl μ' - zSl μ := by omega
      have hq : ∀ (w : Option Value), v.map (zc B ext) = w → ∀ t : State, t.heap = H → s.WarmedH t.vm → zQ B D cA ext L xs v μ' (as.map (zc B ext)).toArray s (.returned w) t := fun w hw t ht _ => ⟨by rw [hw], by rw [ht]; exact hI2, hS2.F ht⟩
      rcases hrt with ⟨rfl, a, rfl, h1⟩ | ⟨rfl, h1, a, rfl⟩ | ⟨rfl, ⟨rt, h1, h2⟩, h3⟩ | ⟨rfl, rfl, h1⟩
      · rcases h1 with h1 | ⟨h1, h2⟩
        · exact W.iret B0.exec B0.bytes (hr.trans h1) (hq _ rfl) hS2.2.2 hd hlocks
        · exact W.zret B0.exec B0.bytes (hr.trans h1) (by rcases h2 with rfl | rfl <;> rfl) (hq _ rfl) hS2.2.2 hd hlocks
      · exact W.lret B0.exec B0.bytes (hr.trans h1) (hq _ rfl) hS2.2.2 hd hlocks
      · have h2' : (∃ n, rt = .object n) ∨ ∃ t, rt = .array t := by cases rt <;> first | exact Or.inl ⟨_, rfl⟩ | exact Or.inr ⟨_, rfl⟩ | cases h2
        rcases h3 with ⟨a, rfl⟩ | rfl
        · exact W.aret (v := .ref (zAd B ext a)) B0.exec B0.bytes (hr.trans h1) h2' (Or.inr ⟨_, rfl⟩) (hq _ rfl) hS2.2.2 hd hlocks
        · exact W.aret (v := .null) B0.exec B0.bytes (hr.trans h1) h2' (Or.inl rfl) (hq _ rfl) hS2.2.2 hd hlocks
      · exact W.vret B0.exec B0.bytes (hr.trans h1) (hq _ rfl) hS2.2.2 hd hlocks
