/-! THE PROGRAM AGAINST THE BYTECODE: each entry is what decode reads, its operands are what the tables say -/
def zPc (cd : List zE) (ip : Nat) : Nat := match cd[ip]? with | some e => e.1 | none => 0
def zLen (e : zE) : Nat := match e.2.1 with
  | .bipush _ => 2 | .sipush _ => 3 | .ldc _ => 2 | .ldc_w _ => 3 | .ldc2_w _ => 3
  | .iload _ => 2 | .lload _ => 2 | .aload _ => 2 | .istore _ => 2 | .lstore _ => 2 | .astore _ => 2 | .iinc _ _ => 3
  | .goto _ => 3 | .ifCond _ _ => 3 | .if_icmp _ _ => 3 | .ifnull _ => 3 | .ifnonnull _ => 3 | .tableswitch _ _ _ _ => e.2.2.2.1
  | .getfield _ => 3 | .putfield _ => 3 | .newarray _ => 2 | .anewarray _ => 3 | .multianewarray _ _ => 4 | .new _ => 3 | .instanceof _ => 3 | .checkcast _ => 3
  | .invokestatic _ => 3 | .invokespecial _ => 3 | .invokevirtual _ => 3
  | _ => 1
def zFalls : Instr → Bool
  | .goto _ => false | .tableswitch _ _ _ _ => false | .return_ => false | .ireturn => false | .lreturn => false | .areturn => false
  | _ => true
def zTabOk (cd : List zE) (pc : Nat) : List Nat → List Int → Bool
  | [], [] => true
  | t :: ts, o :: os => decide ((pc : Int) + o = (zPc cd t : Int)) && zTabOk cd pc ts os
  | _, _ => false
noncomputable def zOpk (own nL : Nat) (ret : Option FieldType) (init : Bool) (cd : List zE) (e : zE) : Bool :=
  match e with
  | (pc, ins, x, y, w, t) =>
  match ins with
  | .iconst n => decide (Int32.ofInt n = w)
  | .bipush n => decide ((Int8.ofInt n).toInt32 = w)
  | .sipush n => decide ((Int16.ofInt n).toInt32 = w)
  | .ldc n => if y = 0 then zKC.any (fun q => q.2.1 == n && q.1 == own && q.2.2.1 == w) else (own == 11 && n == 82 && x == 1000000) || (own == 7 && n == 80 && x == 1000001)
  | .ldc_w n => zKC.any (fun q => q.2.1 == n && q.1 == own && q.2.2.1 == w)
  | .lconst n => decide (Int64.ofNat n = zLc x y)
  | .ldc2_w n => zLC.any (fun q => q.2.1 == n && q.1 == own && q.2.2.1 == x && q.2.2.2.1 == y)
  | .iload_n k => k.val == x
  | .iload k => k == x
  | .lload_n k => k.val == x
  | .lload k => k == x
  | .aload_n k => k.val == x
  | .aload k => k == x
  | .istore_n k => k.val == x && decide (x < nL)
  | .istore k => k == x && decide (x < nL)
  | .lstore_n k => k.val == x && decide (x + 1 < nL)
  | .lstore k => k == x && decide (x + 1 < nL)
  | .astore_n k => k.val == x && decide (x < nL)
  | .astore k => k == x && decide (x < nL)
  | .iinc k n => k == x && decide (Int32.ofInt n = w) && decide (x < nL)
  | .goto off => decide ((pc : Int) + off = (zPc cd x : Int))
  | .ifCond _ off => decide ((pc : Int) + off = (zPc cd x : Int))
  | .if_icmp _ off => decide ((pc : Int) + off = (zPc cd x : Int))
  | .ifnull off => decide ((pc : Int) + off = (zPc cd x : Int))
  | .ifnonnull off => decide ((pc : Int) + off = (zPc cd x : Int))
  | .tableswitch d lo hi offs => decide ((pc : Int) + d = (zPc cd x : Int)) && decide (w.toInt = lo) && decide (hi = lo + t.length - 1) && decide (-1000 < lo) && decide (hi < 1000) && zTabOk cd pc t offs.toList
  | .getfield n => decide (y < 13) && zFC.any (fun q => q.2.1 == n && q.1 == own && q.2.2.1 == x && q.2.2.2.1 == y) && (match t with | [] => !(zFR y x) | _ => zFR y x)
  | .putfield n => decide (y < 13) && zFC.any (fun q => q.2.1 == n && q.1 == own && q.2.2.1 == x && q.2.2.2.1 == y) && (match t with | [] => zKd y x == 0 | [2] => zKd y x == 1 | [0] => zKd y x == 2 | _ => true) && (!(zFn y x) || (init && y == own && !(zSub y 3 && !(y == 3))))
  | .aastore => (y == 23 && x == 3) || (y == 24 && x == 8) || (y == 25 && x == 6)
  | .newarray a => (decide (a = .int) && x == 20) || (decide (a = .boolean) && x == 21)
  | .anewarray n => (x == 23 && zNC.any (fun q => q.2.1 == n && q.1 == own && q.2.2.1 == 3)) || (x == 24 && zNC.any (fun q => q.2.1 == n && q.1 == own && q.2.2.1 == 8)) || (x == 25 && zNC.any (fun q => q.2.1 == n && q.1 == own && q.2.2.1 == 6))
  | .multianewarray n d => d == 2 && zNC.any (fun q => q.2.1 == n && q.1 == own && q.2.2.1 == 22)
  | .new n => decide (x < 13) && (vwG x).2.2 == y && zNC.any (fun q => q.2.1 == n && q.1 == own && q.2.2.1 == x)
  | .instanceof n => decide (x < 13) && zSub x 3 && zNC.any (fun q => q.2.1 == n && q.1 == own && q.2.2.1 == x)
  | .invokestatic n => match t with
    | [] => zMC.any (fun q => q.2.1 == n && q.1 == own && q.2.2.1 == x && q.2.2.2.1 == y && q.2.2.2.2.1 == 0)
    | [k] => zPC.any (fun q => q.2.1 == n && q.1 == own && q.2.2.1 == k)
    | _ => true
  | .invokespecial n => match t with
    | [] => zPC.any (fun q => q.2.1 == n && q.1 == own && q.2.2.1 == 5)
    | _ => decide (t.headD 0 < 13) && zMC.any (fun q => q.2.1 == n && q.1 == own && q.2.2.1 == x && q.2.2.2.1 == y && decide (2 ≤ q.2.2.2.2.1) && decide (q.2.2.2.2.1 ≤ 5))
  | .invokevirtual n => match t with
    | [] => (x == 0 && ((own == 11 && n == 84) || (own == 7 && n == 82))) || (x == 1 && ((own == 11 && n == 90) || (own == 7 && n == 88)))
    | [99] => true
    | [c] => decide (c < 13) && zow x == c && zMC.any (fun q => q.2.1 == n && q.1 == own && q.2.2.1 == x && q.2.2.2.1 == y && q.2.2.2.2.1 == 1)
    | _ => zMC.any (fun q => q.2.1 == n && q.1 == own && q.2.2.1 == x && q.2.2.2.1 == y && q.2.2.2.2.1 == 6)
  | .ireturn => match t with | [] => decide (ret = some .int) | _ => decide (ret = some .boolean)
  | .lreturn => decide (ret = some .long)
  | .areturn => match ret with | some r => refKind r | none => false
  | .return_ => decide (ret = none)
  | _ => true
noncomputable def zChk1 (cc : ByteArray) (own nL : Nat) (ret : Option FieldType) (init : Bool) (cd : List zE) (e : zE) (nx : Nat) : Bool :=
  decide (decode cc e.1 = .ok (e.2.1, zLen e)) && (!(zFalls e.2.1) || nx == e.1 + zLen e) && zOpk own nL ret init cd e
noncomputable def zChkF (cc : ByteArray) (own nL : Nat) (ret : Option FieldType) (init : Bool) (cd : List zE) : List zE → Bool
  | [] => true
  | e :: r => zChk1 cc own nL ret init cd e (match r with | e2 :: _ => e2.1 | [] => 0) && zChkF cc own nL ret init cd r
theorem zChkF_get {cc : ByteArray} {own nL : Nat} {ret : Option FieldType} {init : Bool} {cd : List zE} : ∀ (l : List zE) (i : Nat) (e : zE), zChkF cc own nL ret init cd l = true → l[i]? = some e → zChk1 cc own nL ret init cd e (zPc l (i + 1)) = true
  | [], i, e, _, he => by simp at he
  | a :: r, 0, e, h, he => by
    simp only [zChkF, Bool.and_eq_true] at h
    obtain rfl : a = e := by simpa using he
    cases r with
    | nil => exact h.1
    | cons b r => exact h.1
  | a :: r, i + 1, e, h, he => by
    simp only [zChkF, Bool.and_eq_true] at h
    have := zChkF_get r i e h.2 (by simpa using he)
    rw [show zPc (a :: r) (i + 1 + 1) = zPc r (i + 1) by simp [zPc]]
    exact this
noncomputable def zChkR (cc : ByteArray) (own nL : Nat) (ret : Option FieldType) (init : Bool) (cd : List zE) (a n : Nat) : Bool := (List.range n).all fun k => match cd[a + k]? with | none => true | some e => zChk1 cc own nL ret init cd e (zPc cd (a + k + 1))
theorem zChkR_get {cc : ByteArray} {own nL : Nat} {ret : Option FieldType} {init : Bool} {cd : List zE} {a n i : Nat} {e : zE} (h : zChkR cc own nL ret init cd a n = true) (h1 : a ≤ i) (h2 : i < a + n) (he : cd[i]? = some e) : zChk1 cc own nL ret init cd e (zPc cd (i + 1)) = true := by
  have := List.all_eq_true.mp h (i - a) (List.mem_range.mpr (by omega))
  rw [show a + (i - a) = i by omega, he] at this
  exact this
/-- every entry of a method's code is right -/
def zAll (cc : ByteArray) (own nL : Nat) (ret : Option FieldType) (init : Bool) (cd : List zE) : Prop := ∀ (i : Nat) (e : zE), cd[i]? = some e → zChk1 cc own nL ret init cd e (zPc cd (i + 1)) = true
