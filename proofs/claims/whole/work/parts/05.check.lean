/-! THE PROGRAM AGAINST THE BYTECODE: each entry is what decode reads, its operands are what the tables say -/
def zPc (cd : List zE) (ip : Nat) : Nat := match cd[ip]? with | some e => e.1 | none => 0
def zLen (e : zE) : Nat := match e.2.1 with
  | .bipush _ => 2 | .sipush _ => 3 | .ldc _ => 2 | .ldc_w _ => 3 | .ldc2_w _ => 3
  | .iload _ => 2 | .lload _ => 2 | .aload _ => 2 | .istore _ => 2 | .lstore _ => 2 | .astore _ => 2 | .iinc _ _ => 3
  | .goto _ => 3 | .ifCond _ _ => 3 | .if_icmp _ _ => 3 | .ifnull _ => 3 | .ifnonnull _ => 3 | .tableswitch _ _ _ _ => e.2.2.2.1
  | .getfield _ => 3 | .putfield _ => 3 | .newarray _ => 2 | .anewarray _ => 3 | .multianewarray _ _ => 4 | .new _ => 3 | .instanceof _ => 3 | .checkcast _ => 3
  | .invokestatic _ => 3 | .invokespecial _ => 3 | .invokevirtual _ => 3
  | _ => 1
def zFalls : Instr → Bool
  | .goto _ => false | .tableswitch _ _ _ _ => false | .return_ => false | .ireturn => false | .lreturn => false | .areturn => false
  | _ => true
def zTabOk (cd : List zE) (pc : Nat) : List Nat → List Int → Bool
  | [], [] => true
  | t :: ts, o :: os => decide ((pc : Int) + o = (zPc cd t : Int)) && zTabOk cd pc ts os
  | _, _ => false
noncomputable def zOpk (own nL : Nat) (ret : Option FieldType) (init : Bool) (cd : List zE) (e : zE) : Bool :=
  match e with
  | (pc, ins, x, y, w, t) =>
  match ins with
  | .iconst n => decide (Int32.ofInt n = w)
  | .bipush n => decide ((Int8.ofInt n).toInt32 = w)
  | .sipush n => decide ((Int16.ofInt n).toInt32 = w)
  | .ldc n => if y = 0 then zKC.any (fun q => q.1 == own && q.2.1 == n && q.2.2.1 == w) else (own == 11 && n == 82 && x == 1000000) || (own == 7 && n == 80 && x == 1000001)
  | .ldc_w n => zKC.any (fun q => q.1 == own && q.2.1 == n && q.2.2.1 == w)
  | .lconst n => decide (Int64.ofNat n = zLc x y)
  | .ldc2_w n => zLC.any (fun q => q.1 == own && q.2.1 == n && q.2.2.1 == x && q.2.2.2.1 == y)
  | .iload_n k => k.val == x
  | .iload k => k == x
  | .lload_n k => k.val == x
  | .lload k => k == x
  | .aload_n k => k.val == x
  | .aload k => k == x
  | .istore_n k => k.val == x && decide (x < nL)
  | .istore k => k == x && decide (x < nL)
  | .lstore_n k => k.val == x && decide (x + 1 < nL)
  | .lstore k => k == x && decide (x + 1 < nL)
  | .astore_n k => k.val == x && decide (x < nL)
  | .astore k => k == x && decide (x < nL)
  | .iinc k n => k == x && decide (Int32.ofInt n = w) && decide (x < nL)
  | .goto off => decide ((pc : Int) + off = (zPc cd x : Int))
  | .ifCond _ off => decide ((pc : Int) + off = (zPc cd x : Int))
  | .if_icmp _ off => decide ((pc : Int) + off = (zPc cd x : Int))
  | .ifnull off => decide ((pc : Int) + off = (zPc cd x : Int))
  | .ifnonnull off => decide ((pc : Int) + off = (zPc cd x : Int))
  | .tableswitch d lo hi offs => decide ((pc : Int) + d = (zPc cd x : Int)) && decide (w.toInt = lo) && decide (hi = lo + t.length - 1) && decide (0 ≤ lo) && decide (hi < 1000) && zTabOk cd pc t offs.toList
  | .getfield n => decide (y < 13) && zFC.any (fun q => q.1 == own && q.2.1 == n && q.2.2.1 == x && q.2.2.2.1 == y) && (match t with | [] => !(zFR y x) | _ => zFR y x)
  | .putfield n => decide (y < 13) && zFC.any (fun q => q.1 == own && q.2.1 == n && q.2.2.1 == x && q.2.2.2.1 == y) && (match t with | [] => zKd y x == 0 | [2] => zKd y x == 1 | [0] => zKd y x == 2 | _ => true) && (!(zFn y x) || (init && y == own))
  | .aastore => (y == 23 && x == 3) || (y == 24 && x == 8) || (y == 25 && x == 6)
  | .newarray a => (decide (a = .int) && x == 20) || (decide (a = .boolean) && x == 21)
  | .anewarray n => (x == 23 && zNC.any (fun q => q.1 == own && q.2.1 == n && q.2.2.1 == 3)) || (x == 24 && zNC.any (fun q => q.1 == own && q.2.1 == n && q.2.2.1 == 8)) || (x == 25 && zNC.any (fun q => q.1 == own && q.2.1 == n && q.2.2.1 == 6))
  | .multianewarray n d => d == 2 && zNC.any (fun q => q.1 == own && q.2.1 == n && q.2.2.1 == 22)
  | .new n => decide (x < 13) && (vwG x).2.2 == y && zNC.any (fun q => q.1 == own && q.2.1 == n && q.2.2.1 == x)
  | .instanceof n => decide (x < 13) && zNC.any (fun q => q.1 == own && q.2.1 == n && q.2.2.1 == x)
  | .invokestatic n => match t with
    | [] => zMC.any (fun q => q.1 == own && q.2.1 == n && q.2.2.1 == x && q.2.2.2.1 == y && q.2.2.2.2.1 == 0)
    | [k] => zPC.any (fun q => q.1 == own && q.2.1 == n && q.2.2.1 == k)
    | _ => true
  | .invokespecial n => match t with
    | [] => zPC.any (fun q => q.1 == own && q.2.1 == n && q.2.2.1 == 5)
    | _ => zMC.any (fun q => q.1 == own && q.2.1 == n && q.2.2.1 == x && q.2.2.2.1 == y && decide (2 ≤ q.2.2.2.2.1) && decide (q.2.2.2.2.1 ≤ 5))
  | .invokevirtual n => match t with
    | [] => (x == 0 && ((own == 11 && n == 84) || (own == 7 && n == 82))) || (x == 1 && ((own == 11 && n == 90) || (own == 7 && n == 88)))
    | [c] => decide (c < 13) && zow x == c && zMC.any (fun q => q.1 == own && q.2.1 == n && q.2.2.1 == x && q.2.2.2.1 == y && q.2.2.2.2.1 == 1)
    | _ => zMC.any (fun q => q.1 == own && q.2.1 == n && q.2.2.1 == x && q.2.2.2.1 == y && q.2.2.2.2.1 == 6)
  | .ireturn => match t with | [] => decide (ret = some .int) | _ => decide (ret = some .boolean)
  | .lreturn => decide (ret = some .long)
  | .areturn => match ret with | some r => refKind r | none => false
  | .return_ => decide (ret = none)
  | _ => true
noncomputable def zChk1 (cc : ByteArray) (own nL : Nat) (ret : Option FieldType) (init : Bool) (cd : List zE) (e : zE) (nx : Nat) : Bool :=
  decide (decode cc e.1 = .ok (e.2.1, zLen e)) && (!(zFalls e.2.1) || nx == e.1 + zLen e) && zOpk own nL ret init cd e
noncomputable def zChkF (cc : ByteArray) (own nL : Nat) (ret : Option FieldType) (init : Bool) (cd : List zE) : List zE → Bool
  | [] => true
  | e :: r => zChk1 cc own nL ret init cd e (match r with | e2 :: _ => e2.1 | [] => 0) && zChkF cc own nL ret init cd r
theorem zChkF_get {cc : ByteArray} {own nL : Nat} {ret : Option FieldType} {init : Bool} {cd : List zE} : ∀ (l : List zE) (i : Nat) (e : zE), zChkF cc own nL ret init cd l = true → l[i]? = some e → zChk1 cc own nL ret init cd e (zPc l (i + 1)) = true
  | [], i, e, _, he => by simp at he
  | a :: r, 0, e, h, he => by
    simp only [zChkF, Bool.and_eq_true] at h
    obtain rfl : a = e := by simpa using he
    cases r with
    | nil => exact h.1
    | cons b r => exact h.1
  | a :: r, i + 1, e, h, he => by
    simp only [zChkF, Bool.and_eq_true] at h
    have := zChkF_get r i e h.2 (by simpa using he)
    rw [show zPc (a :: r) (i + 1 + 1) = zPc r (i + 1) by simp [zPc]]
    exact this
set_option maxRecDepth 100000 in
theorem zk_0 : zChkF cX0_init 0 5 none true zc_X0_init zc_X0_init = true := by decide +kernel
set_option maxRecDepth 100000 in
theorem zk_1 : zChkF cX0_joinsAt 0 2 (some .int) false zc_X0_joinsAt zc_X0_joinsAt = true := by decide +kernel
set_option maxRecDepth 100000 in
theorem zk_2 : zChkF cX1_init 1 1 none true zc_X1_init zc_X1_init = true := by decide +kernel
set_option maxRecDepth 100000 in
theorem zk_3 : zChkF cX1_become 1 3 none false zc_X1_become zc_X1_become = true := by decide +kernel
set_option maxRecDepth 100000 in
theorem zk_4 : zChkF cX2_init 2 5 none true zc_X2_init zc_X2_init = true := by decide +kernel
set_option maxRecDepth 100000 in
theorem zk_5 : zChkF cX2_worthAt 2 3 (some .int) false zc_X2_worthAt zc_X2_worthAt = true := by decide +kernel
set_option maxRecDepth 100000 in
theorem zk_6 : zChkF cX3_init 3 5 none true zc_X3_init zc_X3_init = true := by decide +kernel
set_option maxRecDepth 100000 in
theorem zk_7 : zChkF cX3_standsAt 3 2 (some .boolean) false zc_X3_standsAt zc_X3_standsAt = true := by decide +kernel
set_option maxRecDepth 100000 in
theorem zk_8 : zChkF cX3_worthAt 3 3 (some .int) false zc_X3_worthAt zc_X3_worthAt = true := by decide +kernel
set_option maxRecDepth 100000 in
theorem zk_9 : zChkF cX3_joinsAt 3 2 (some .int) false zc_X3_joinsAt zc_X3_joinsAt = true := by decide +kernel
set_option maxRecDepth 100000 in
theorem zk_10 : zChkF cX4_init 4 5 none true zc_X4_init zc_X4_init = true := by decide +kernel
set_option maxRecDepth 100000 in
theorem zk_11 : zChkF cX4_standsAt 4 2 (some .boolean) false zc_X4_standsAt zc_X4_standsAt = true := by decide +kernel
set_option maxRecDepth 100000 in
theorem zk_12 : zChkF cX5_init 5 5 none true zc_X5_init zc_X5_init = true := by decide +kernel
set_option maxRecDepth 100000 in
theorem zk_13 : zChkF cX5_worthAt 5 3 (some .int) false zc_X5_worthAt zc_X5_worthAt = true := by decide +kernel
set_option maxRecDepth 100000 in
theorem zk_14 : zChkF cX6_init 6 1 none true zc_X6_init zc_X6_init = true := by decide +kernel
set_option maxRecDepth 100000 in
theorem zk_15 : zChkF cX6_become 6 3 none false zc_X6_become zc_X6_become = true := by decide +kernel
set_option maxRecDepth 100000 in
theorem zk_16 : zChkF cX6_put 6 3 none false zc_X6_put zc_X6_put = true := by decide +kernel
set_option maxRecDepth 100000 in
theorem zk_17 : zChkF cX6_hasRoom 6 3 (some .boolean) false zc_X6_hasRoom zc_X6_hasRoom = true := by decide +kernel
set_option maxRecDepth 100000 in
theorem zk_18 : zChkF cX7_init 7 1 none true zc_X7_init zc_X7_init = true := by decide +kernel
set_option maxRecDepth 100000 in
theorem zk_19 : zChkF cX7_append 7 2 none false zc_X7_append zc_X7_append = true := by decide +kernel
set_option maxRecDepth 100000 in
theorem zk_20 : zChkF cX7_clear 7 1 none false zc_X7_clear zc_X7_clear = true := by decide +kernel
set_option maxRecDepth 100000 in
theorem zk_21 : zChkF cX7_readText 7 4 (some (.object "HighWater$Text")) false zc_X7_readText zc_X7_readText = true := by decide +kernel
set_option maxRecDepth 100000 in
theorem zk_22 : zChkF cX7_readToken 7 1 none false zc_X7_readToken zc_X7_readToken = true := by decide +kernel
set_option maxRecDepth 100000 in
theorem zk_23 : zChkF cX7_readWord 7 4 none false zc_X7_readWord zc_X7_readWord = true := by decide +kernel
set_option maxRecDepth 100000 in
theorem zk_24 : zChkF cX7_isSpelledFrom 7 4 (some .boolean) false zc_X7_isSpelledFrom zc_X7_isSpelledFrom = true := by decide +kernel
set_option maxRecDepth 100000 in
theorem zk_25 : zChkF cX7_readNumber 7 1 none false zc_X7_readNumber zc_X7_readNumber = true := by decide +kernel
set_option maxRecDepth 100000 in
theorem zk_26 : zChkF cX7_isLetter 7 1 (some .boolean) false zc_X7_isLetter zc_X7_isLetter = true := by decide +kernel
set_option maxRecDepth 100000 in
theorem zk_27 : zChkF cX7_isDigit 7 1 (some .boolean) false zc_X7_isDigit zc_X7_isDigit = true := by decide +kernel
set_option maxRecDepth 100000 in
theorem zk_28 : zChkF cX7_isSign 7 1 (some .boolean) false zc_X7_isSign zc_X7_isSign = true := by decide +kernel
set_option maxRecDepth 100000 in
theorem zk_29 : zChkF cX7_refuse 7 1 none false zc_X7_refuse zc_X7_refuse = true := by decide +kernel
set_option maxRecDepth 100000 in
theorem zk_30 : zChkF cX7_pass 7 2 none false zc_X7_pass zc_X7_pass = true := by decide +kernel
set_option maxRecDepth 100000 in
theorem zk_31 : zChkF cX7_emit 7 2 none false zc_X7_emit zc_X7_emit = true := by decide +kernel
set_option maxRecDepth 100000 in
theorem zk_32 : zChkF cX7_opens 7 1 (some .boolean) false zc_X7_opens zc_X7_opens = true := by decide +kernel
set_option maxRecDepth 100000 in
theorem zk_33 : zChkF cX7_readOr 7 2 none false zc_X7_readOr zc_X7_readOr = true := by decide +kernel
set_option maxRecDepth 100000 in
theorem zk_34 : zChkF cX7_readAnd 7 2 none false zc_X7_readAnd zc_X7_readAnd = true := by decide +kernel
set_option maxRecDepth 100000 in
theorem zk_35 : zChkF cX7_readNot 7 2 none false zc_X7_readNot zc_X7_readNot = true := by decide +kernel
set_option maxRecDepth 100000 in
theorem zk_36 : zChkF cX7_readSum 7 3 none false zc_X7_readSum zc_X7_readSum = true := by decide +kernel
set_option maxRecDepth 100000 in
theorem zk_37 : zChkF cX7_readTerm 7 2 none false zc_X7_readTerm zc_X7_readTerm = true := by decide +kernel
set_option maxRecDepth 100000 in
theorem zk_38 : zChkF cX7_readOne 7 1 none false zc_X7_readOne zc_X7_readOne = true := by decide +kernel
set_option maxRecDepth 100000 in
theorem zk_39 : zChkF cX8_init 8 4 none true zc_X8_init zc_X8_init = true := by decide +kernel
set_option maxRecDepth 100000 in
theorem zk_40 : zChkF cX8_valueOf 8 10 (some .int) false zc_X8_valueOf zc_X8_valueOf = true := by decide +kernel
set_option maxRecDepth 100000 in
theorem zk_41 : zChkF cX8_join 8 3 (some .int) false zc_X8_join zc_X8_join = true := by decide +kernel
set_option maxRecDepth 100000 in
theorem zk_42 : zChkF cX9_init 9 1 none true zc_X9_init zc_X9_init = true := by decide +kernel
set_option maxRecDepth 100000 in
theorem zk_43 : zChkF cX9_clear 9 4 none false zc_X9_clear zc_X9_clear = true := by decide +kernel
set_option maxRecDepth 100000 in
theorem zk_44 : zChkF cX9_unite 9 5 none false zc_X9_unite zc_X9_unite = true := by decide +kernel
set_option maxRecDepth 100000 in
theorem zk_45 : zChkF cX9_sumWholes 9 2 none false zc_X9_sumWholes zc_X9_sumWholes = true := by decide +kernel
set_option maxRecDepth 100000 in
theorem zk_46 : zChkF cX9_rootOf 9 2 (some .int) false zc_X9_rootOf zc_X9_rootOf = true := by decide +kernel
set_option maxRecDepth 100000 in
theorem zk_47 : zChkF cX9_rootUnder 9 3 (some .int) false zc_X9_rootUnder zc_X9_rootUnder = true := by decide +kernel
set_option maxRecDepth 100000 in
theorem zk_48 : zChkF cX9_put 9 5 none false zc_X9_put zc_X9_put = true := by decide +kernel
set_option maxRecDepth 100000 in
theorem zk_49 : zChkF cX9_ownerOf 9 4 (some .int) false zc_X9_ownerOf zc_X9_ownerOf = true := by decide +kernel
set_option maxRecDepth 100000 in
theorem zk_50 : zChkF cX9_gainOf 9 2 (some .int) false zc_X9_gainOf zc_X9_gainOf = true := by decide +kernel
set_option maxRecDepth 100000 in
theorem zk_51 : zChkF cX9_gainAt 9 5 (some .int) false zc_X9_gainAt zc_X9_gainAt = true := by decide +kernel
set_option maxRecDepth 100000 in
theorem zk_52 : zChkF cX9_gainOfOthers 9 4 (some .int) false zc_X9_gainOfOthers zc_X9_gainOfOthers = true := by decide +kernel
set_option maxRecDepth 100000 in
theorem zk_53 : zChkF cX9_leftAt 9 3 (some .int) false zc_X9_leftAt zc_X9_leftAt = true := by decide +kernel
set_option maxRecDepth 100000 in
theorem zk_54 : zChkF cX9_leftOfAll 9 4 (some .int) false zc_X9_leftOfAll zc_X9_leftOfAll = true := by decide +kernel
set_option maxRecDepth 100000 in
theorem zk_55 : zChkF cX9_bestPlaceOf 9 6 (some .int) false zc_X9_bestPlaceOf zc_X9_bestPlaceOf = true := by decide +kernel
set_option maxRecDepth 100000 in
theorem zk_56 : zChkF cX9_isAtRest 9 2 (some .boolean) false zc_X9_isAtRest zc_X9_isAtRest = true := by decide +kernel
set_option maxRecDepth 100000 in
theorem zk_57 : zChkF cX9_worthOfStanding 9 4 (some .int) false zc_X9_worthOfStanding zc_X9_worthOfStanding = true := by decide +kernel
set_option maxRecDepth 100000 in
theorem zk_58 : zChkF cX9_dearestBut 9 4 (some .int) false zc_X9_dearestBut zc_X9_dearestBut = true := by decide +kernel
set_option maxRecDepth 100000 in
theorem zk_59 : zChkF cX9_firstWay 9 4 (some .int) false zc_X9_firstWay zc_X9_firstWay = true := by decide +kernel
set_option maxRecDepth 100000 in
theorem zk_60 : zChkF cX9_nextWay 9 3 none false zc_X9_nextWay zc_X9_nextWay = true := by decide +kernel
set_option maxRecDepth 100000 in
theorem zk_61 : zChkF cX9_digitsOf 9 4 (some .int) false zc_X9_digitsOf zc_X9_digitsOf = true := by decide +kernel
set_option maxRecDepth 100000 in
theorem zk_62 : zChkF cX10_init 10 5 none true zc_X10_init zc_X10_init = true := by decide +kernel
set_option maxRecDepth 100000 in
theorem zk_63 : zChkF cX10_worthAt 10 3 (some .int) false zc_X10_worthAt zc_X10_worthAt = true := by decide +kernel
set_option maxRecDepth 100000 in
theorem zk_64 : zChkF cX11_init 11 2 none true zc_X11_init zc_X11_init = true := by decide +kernel
set_option maxRecDepth 100000 in
theorem zk_65 : zChkF cX11_tide 11 4 (some .int) false zc_X11_tide zc_X11_tide = true := by decide +kernel
set_option maxRecDepth 100000 in
theorem zk_66 : zChkF cX11_height 11 2 (some .int) false zc_X11_height zc_X11_height = true := by decide +kernel
set_option maxRecDepth 100000 in
theorem zk_67 : zChkF cX11_come 11 1 (some .int) false zc_X11_come zc_X11_come = true := by decide +kernel
set_option maxRecDepth 100000 in
theorem zk_68 : zChkF cX11_go 11 5 (some .int) false zc_X11_go zc_X11_go = true := by decide +kernel
set_option maxRecDepth 100000 in
theorem zk_69 : zChkF cX11_at 11 3 (some .int) false zc_X11_at zc_X11_at = true := by decide +kernel
set_option maxRecDepth 100000 in
theorem zk_70 : zChkF cX11_count 11 2 (some .int) false zc_X11_count zc_X11_count = true := by decide +kernel
set_option maxRecDepth 100000 in
theorem zk_71 : zChkF cX11_feed 11 8 (some .int) false zc_X11_feed zc_X11_feed = true := by decide +kernel
set_option maxRecDepth 100000 in
theorem zk_72 : zChkF cX11_text 11 2 (some .int) false zc_X11_text zc_X11_text = true := by decide +kernel
set_option maxRecDepth 100000 in
theorem zk_73 : zChkF cX11_force 11 3 (some .int) false zc_X11_force zc_X11_force = true := by decide +kernel
set_option maxRecDepth 100000 in
theorem zk_74 : zChkF cX11_asks 11 6 (some .int) false zc_X11_asks zc_X11_asks = true := by decide +kernel
set_option maxRecDepth 100000 in
theorem zk_75 : zChkF cX11_island 11 5 (some .int) false zc_X11_island zc_X11_island = true := by decide +kernel
set_option maxRecDepth 100000 in
theorem zk_76 : zChkF cX11_told 11 4 (some .int) false zc_X11_told zc_X11_told = true := by decide +kernel
set_option maxRecDepth 100000 in
theorem zk_77 : zChkF cX11_then 11 4 (some .int) false zc_X11_then zc_X11_then = true := by decide +kernel
set_option maxRecDepth 100000 in
theorem zk_78 : zChkF cX11_joined 11 5 (some .int) false zc_X11_joined zc_X11_joined = true := by decide +kernel
set_option maxRecDepth 100000 in
theorem zk_79 : zChkF cX11_whose 11 3 (some .int) false zc_X11_whose zc_X11_whose = true := by decide +kernel
set_option maxRecDepth 100000 in
theorem zk_80 : zChkF cX11_gain 11 3 (some .int) false zc_X11_gain zc_X11_gain = true := by decide +kernel
set_option maxRecDepth 100000 in
theorem zk_81 : zChkF cX11_costs 11 3 (some .int) false zc_X11_costs zc_X11_costs = true := by decide +kernel
set_option maxRecDepth 100000 in
theorem zk_82 : zChkF cX11_year 11 6 (some .int) false zc_X11_year zc_X11_year = true := by decide +kernel
set_option maxRecDepth 100000 in
theorem zk_83 : zChkF cX11_best 11 5 (some .int) false zc_X11_best zc_X11_best = true := by decide +kernel
set_option maxRecDepth 100000 in
theorem zk_84 : zChkF cX11_wise 11 5 (some .int) false zc_X11_wise zc_X11_wise = true := by decide +kernel
set_option maxRecDepth 100000 in
theorem zk_85 : zChkF cX11_rest 11 2 (some .int) false zc_X11_rest zc_X11_rest = true := by decide +kernel
set_option maxRecDepth 100000 in
theorem zk_86 : zChkF cX11_ways 11 8 (some .int) false zc_X11_ways zc_X11_ways = true := by decide +kernel
set_option maxRecDepth 100000 in
theorem zk_87 : zChkF cX11_family 11 9 (some .int) false zc_X11_family zc_X11_family = true := by decide +kernel
set_option maxRecDepth 100000 in
theorem zk_88 : zChkF cX11_spoil 11 8 (some .int) false zc_X11_spoil zc_X11_spoil = true := by decide +kernel
set_option maxRecDepth 100000 in
theorem zk_89 : zChkF cX11_ransom 11 5 (some .int) false zc_X11_ransom zc_X11_ransom = true := by decide +kernel
set_option maxRecDepth 100000 in
theorem zk_90 : zChkF cX11_share 11 5 (some .int) false zc_X11_share zc_X11_share = true := by decide +kernel
set_option maxRecDepth 100000 in
theorem zk_91 : zChkF cX11_unfair 11 7 (some .int) false zc_X11_unfair zc_X11_unfair = true := by decide +kernel
set_option maxRecDepth 100000 in
theorem zk_92 : zChkF cX11_dear 11 6 (some .int) false zc_X11_dear zc_X11_dear = true := by decide +kernel
set_option maxRecDepth 100000 in
theorem zk_93 : zChkF cX11_holds 11 8 (some .int) false zc_X11_holds zc_X11_holds = true := by decide +kernel
set_option maxRecDepth 100000 in
theorem zk_94 : zChkF cX11_judge 11 4 (some .int) false zc_X11_judge zc_X11_judge = true := by decide +kernel
set_option maxRecDepth 100000 in
theorem zk_95 : zChkF cX11_when 11 5 (some .int) false zc_X11_when zc_X11_when = true := by decide +kernel
set_option maxRecDepth 100000 in
theorem zk_96 : zChkF cX11_were 11 11 (some .int) false zc_X11_were zc_X11_were = true := by decide +kernel
set_option maxRecDepth 100000 in
theorem zk_97 : zChkF cX11_film 11 5 (some .int) false zc_X11_film zc_X11_film = true := by decide +kernel
set_option maxRecDepth 100000 in
theorem zk_98 : zChkF cX11_laws 11 6 (some .int) false zc_X11_laws zc_X11_laws = true := by decide +kernel
set_option maxRecDepth 100000 in
theorem zk_99 : zChkF cX11_drawn 11 5 (some .int) false zc_X11_drawn zc_X11_drawn = true := by decide +kernel
set_option maxRecDepth 100000 in
theorem zk_100 : zChkF cX11_mean 11 10 (some .long) false zc_X11_mean zc_X11_mean = true := by decide +kernel
set_option maxRecDepth 100000 in
theorem zk_101 : zChkF cX11_image 11 1 (some .int) false zc_X11_image zc_X11_image = true := by decide +kernel
set_option maxRecDepth 100000 in
theorem zk_102 : zChkF cX11_back 11 1 (some .int) false zc_X11_back zc_X11_back = true := by decide +kernel
set_option maxRecDepth 100000 in
theorem zk_103 : zChkF cX11_sheet 11 4 (some .int) false zc_X11_sheet zc_X11_sheet = true := by decide +kernel
set_option maxRecDepth 100000 in
theorem zk_104 : zChkF cX11_cell 11 5 (some .int) false zc_X11_cell zc_X11_cell = true := by decide +kernel
set_option maxRecDepth 100000 in
theorem zk_105 : zChkF cX11_copy 11 8 (some .int) false zc_X11_copy zc_X11_copy = true := by decide +kernel
set_option maxRecDepth 100000 in
theorem zk_106 : zChkF cX11_islandsBy 11 10 (some .int) false zc_X11_islandsBy zc_X11_islandsBy = true := by decide +kernel
set_option maxRecDepth 100000 in
theorem zk_107 : zChkF cX11_taken 11 4 (some .int) false zc_X11_taken zc_X11_taken = true := by decide +kernel
set_option maxRecDepth 100000 in
theorem zk_108 : zChkF cX11_isWithin 11 2 (some .boolean) false zc_X11_isWithin zc_X11_isWithin = true := by decide +kernel
set_option maxRecDepth 100000 in
theorem zk_109 : zChkF cX11_isByte 11 1 (some .boolean) false zc_X11_isByte zc_X11_isByte = true := by decide +kernel
set_option maxRecDepth 100000 in
theorem zk_110 : zChkF cX11_isTide 11 1 (some .boolean) false zc_X11_isTide zc_X11_isTide = true := by decide +kernel
set_option maxRecDepth 100000 in
theorem zk_111 : zChkF cX11_isSheet 11 1 (some .boolean) false zc_X11_isSheet zc_X11_isSheet = true := by decide +kernel
set_option maxRecDepth 100000 in
theorem zk_112 : zChkF cX11_isOne 11 2 (some .boolean) false zc_X11_isOne zc_X11_isOne = true := by decide +kernel
set_option maxRecDepth 100000 in
theorem zk_113 : zChkF cX11_isIsland 11 2 (some .boolean) false zc_X11_isIsland zc_X11_isIsland = true := by decide +kernel
set_option maxRecDepth 100000 in
theorem zk_114 : zChkF cX11_everybody 11 1 (some .int) false zc_X11_everybody zc_X11_everybody = true := by decide +kernel
set_option maxRecDepth 100000 in
theorem zk_115 : zChkF cX11_islandAt 11 2 (some (.object "HighWater$Island")) false zc_X11_islandAt zc_X11_islandAt = true := by decide +kernel
set_option maxRecDepth 100000 in
theorem zk_116 : zChkF cX11_textAt 11 2 (some (.object "HighWater$Text")) false zc_X11_textAt zc_X11_textAt = true := by decide +kernel
set_option maxRecDepth 100000 in
theorem zk_117 : zChkF cX11_law 11 1 (some (.object "HighWater$Text")) false zc_X11_law zc_X11_law = true := by decide +kernel
set_option maxRecDepth 100000 in
theorem zk_118 : zChkF cX11_refusalOfSheet 11 2 (some .int) false zc_X11_refusalOfSheet zc_X11_refusalOfSheet = true := by decide +kernel
set_option maxRecDepth 100000 in
theorem zk_119 : zChkF cX11_refusalOfOwners 11 3 (some .int) false zc_X11_refusalOfOwners zc_X11_refusalOfOwners = true := by decide +kernel
set_option maxRecDepth 100000 in
theorem zk_120 : zChkF cX11_name 11 7 none false zc_X11_name zc_X11_name = true := by decide +kernel
set_option maxRecDepth 100000 in
theorem zk_121 : zChkF cX11_saysOf 11 4 (some .int) false zc_X11_saysOf zc_X11_saysOf = true := by decide +kernel
set_option maxRecDepth 100000 in
theorem zk_122 : zChkF cX11_worthUnder 11 6 (some .int) false zc_X11_worthUnder zc_X11_worthUnder = true := by decide +kernel
set_option maxRecDepth 100000 in
theorem zk_123 : zChkF cX11_costOf 11 6 (some .int) false zc_X11_costOf zc_X11_costOf = true := by decide +kernel
set_option maxRecDepth 100000 in
theorem zk_124 : zChkF cX11_stormOf 11 4 (some .int) false zc_X11_stormOf zc_X11_stormOf = true := by decide +kernel
set_option maxRecDepth 100000 in
theorem zk_125 : zChkF cX11_lookAt 11 6 none false zc_X11_lookAt zc_X11_lookAt = true := by decide +kernel
set_option maxRecDepth 100000 in
theorem zk_126 : zChkF cX11_lookWithCosts 11 4 none false zc_X11_lookWithCosts zc_X11_lookWithCosts = true := by decide +kernel
set_option maxRecDepth 100000 in
theorem zk_127 : zChkF cX11_lookForStorms 11 3 none false zc_X11_lookForStorms zc_X11_lookForStorms = true := by decide +kernel
set_option maxRecDepth 100000 in
theorem zk_128 : zChkF cX11_keptBy 11 6 (some .int) false zc_X11_keptBy zc_X11_keptBy = true := by decide +kernel
set_option maxRecDepth 100000 in
theorem zk_129 : zChkF cX11_gainBy 11 6 (some .int) false zc_X11_gainBy zc_X11_gainBy = true := by decide +kernel
set_option maxRecDepth 100000 in
theorem zk_130 : zChkF cX11_greatestDivisor 11 7 (some .long) false zc_X11_greatestDivisor zc_X11_greatestDivisor = true := by decide +kernel
set_option maxRecDepth 100000 in
theorem zk_131 : zChkF cX11_partIslands 11 10 none false zc_X11_partIslands zc_X11_partIslands = true := by decide +kernel
set_option maxRecDepth 100000 in
theorem zk_132 : zChkF cX11_firstOtherwise 11 3 (some .int) false zc_X11_firstOtherwise zc_X11_firstOtherwise = true := by decide +kernel
set_option maxRecDepth 100000 in
theorem zk_133 : zChkF cX11_newIsland 11 4 (some (.object "HighWater$Island")) false zc_X11_newIsland zc_X11_newIsland = true := by decide +kernel
set_option maxRecDepth 100000 in
theorem zk_134 : zChkF cX11_isOfKind 11 2 (some .boolean) false zc_X11_isOfKind zc_X11_isOfKind = true := by decide +kernel
set_option maxRecDepth 100000 in
theorem zk_135 : zChkF cX12_init 12 2 none true zc_X12_init zc_X12_init = true := by decide +kernel
set_option maxRecDepth 100000 in
theorem zk_136 : zChkF cX12_in 12 3 (some .boolean) false zc_X12_in zc_X12_in = true := by decide +kernel
set_option maxRecDepth 100000 in
theorem zk_137 : zChkF cX12_within 12 3 (some .int) false zc_X12_within zc_X12_within = true := by decide +kernel
set_option maxRecDepth 100000 in
theorem zk_138 : zChkF cX12_isTide 12 1 (some .boolean) false zc_X12_isTide zc_X12_isTide = true := by decide +kernel
set_option maxRecDepth 100000 in
theorem zk_139 : zChkF cX12_isIsland 12 2 (some .boolean) false zc_X12_isIsland zc_X12_isIsland = true := by decide +kernel
set_option maxRecDepth 100000 in
theorem zk_140 : zChkF cX12_isOne 12 2 (some .boolean) false zc_X12_isOne zc_X12_isOne = true := by decide +kernel
set_option maxRecDepth 100000 in
theorem zk_141 : zChkF cX12_tide 12 4 (some .int) false zc_X12_tide zc_X12_tide = true := by decide +kernel
set_option maxRecDepth 100000 in
theorem zk_142 : zChkF cX12_height 12 2 (some .int) false zc_X12_height zc_X12_height = true := by decide +kernel
set_option maxRecDepth 100000 in
theorem zk_143 : zChkF cX12_come 12 2 (some .int) false zc_X12_come zc_X12_come = true := by decide +kernel
set_option maxRecDepth 100000 in
theorem zk_144 : zChkF cX12_go 12 5 (some .int) false zc_X12_go zc_X12_go = true := by decide +kernel
set_option maxRecDepth 100000 in
theorem zk_145 : zChkF cX12_at 12 3 (some .int) false zc_X12_at zc_X12_at = true := by decide +kernel
set_option maxRecDepth 100000 in
theorem zk_146 : zChkF cX12_count 12 2 (some .int) false zc_X12_count zc_X12_count = true := by decide +kernel
set_option maxRecDepth 100000 in
theorem zk_147 : zChkF cX12_isByte 12 1 (some .boolean) false zc_X12_isByte zc_X12_isByte = true := by decide +kernel
set_option maxRecDepth 100000 in
theorem zk_148 : zChkF cX12_feed 12 8 (some .int) false zc_X12_feed zc_X12_feed = true := by decide +kernel
set_option maxRecDepth 100000 in
theorem zk_149 : zChkF cX12_wordFrom 12 6 (some .int) false zc_X12_wordFrom zc_X12_wordFrom = true := by decide +kernel
set_option maxRecDepth 100000 in
theorem zk_150 : zChkF cX12_next 12 3 none false zc_X12_next zc_X12_next = true := by decide +kernel
set_option maxRecDepth 100000 in
theorem zk_151 : zChkF cX12_rank 12 1 (some .int) false zc_X12_rank zc_X12_rank = true := by decide +kernel
set_option maxRecDepth 100000 in
theorem zk_152 : zChkF cX12_puts 12 2 none false zc_X12_puts zc_X12_puts = true := by decide +kernel
set_option maxRecDepth 100000 in
theorem zk_153 : zChkF cX12_unwinds 12 3 none false zc_X12_unwinds zc_X12_unwinds = true := by decide +kernel
set_option maxRecDepth 100000 in
theorem zk_154 : zChkF cX12_holds 12 2 none false zc_X12_holds zc_X12_holds = true := by decide +kernel
set_option maxRecDepth 100000 in
theorem zk_155 : zChkF cX12_opensOne 12 2 (some .boolean) false zc_X12_opensOne zc_X12_opensOne = true := by decide +kernel
set_option maxRecDepth 100000 in
theorem zk_156 : zChkF cX12_between 12 2 (some .boolean) false zc_X12_between zc_X12_between = true := by decide +kernel
set_option maxRecDepth 100000 in
theorem zk_157 : zChkF cX12_signOf 12 1 (some .int) false zc_X12_signOf zc_X12_signOf = true := by decide +kernel
set_option maxRecDepth 100000 in
theorem zk_158 : zChkF cX12_eRead 12 4 (some .boolean) false zc_X12_eRead zc_X12_eRead = true := by decide +kernel
set_option maxRecDepth 100000 in
theorem zk_159 : zChkF cX12_text 12 3 (some .int) false zc_X12_text zc_X12_text = true := by decide +kernel
set_option maxRecDepth 100000 in
theorem zk_160 : zChkF cX12_two 12 3 (some .int) false zc_X12_two zc_X12_two = true := by decide +kernel
set_option maxRecDepth 100000 in
theorem zk_161 : zChkF cX12_says 12 5 (some .int) false zc_X12_says zc_X12_says = true := by decide +kernel
set_option maxRecDepth 100000 in
theorem zk_162 : zChkF cX12_force 12 3 (some .int) false zc_X12_force zc_X12_force = true := by decide +kernel
set_option maxRecDepth 100000 in
theorem zk_163 : zChkF cX12_asksOf 12 8 (some .int) false zc_X12_asksOf zc_X12_asksOf = true := by decide +kernel
set_option maxRecDepth 100000 in
theorem zk_164 : zChkF cX12_asks 12 7 (some .int) false zc_X12_asks zc_X12_asks = true := by decide +kernel
set_option maxRecDepth 100000 in
theorem zk_165 : zChkF cX12_island 12 5 (some .int) false zc_X12_island zc_X12_island = true := by decide +kernel
set_option maxRecDepth 100000 in
theorem zk_166 : zChkF cX12_told 12 3 (some .int) false zc_X12_told zc_X12_told = true := by decide +kernel
set_option maxRecDepth 100000 in
theorem zk_167 : zChkF cX12_stands 12 3 (some .boolean) false zc_X12_stands zc_X12_stands = true := by decide +kernel
set_option maxRecDepth 100000 in
theorem zk_168 : zChkF cX12_worthOf 12 7 (some .int) false zc_X12_worthOf zc_X12_worthOf = true := by decide +kernel
set_option maxRecDepth 100000 in
theorem zk_169 : zChkF cX12_joinsOf 12 5 (some .int) false zc_X12_joinsOf zc_X12_joinsOf = true := by decide +kernel
set_option maxRecDepth 100000 in
theorem zk_170 : zChkF cX12_looksAt 12 7 none false zc_X12_looksAt zc_X12_looksAt = true := by decide +kernel
set_option maxRecDepth 100000 in
theorem zk_171 : zChkF cX12_then 12 4 (some .int) false zc_X12_then zc_X12_then = true := by decide +kernel
set_option maxRecDepth 100000 in
theorem zk_172 : zChkF cX12_joined 12 5 (some .int) false zc_X12_joined zc_X12_joined = true := by decide +kernel
set_option maxRecDepth 100000 in
theorem zk_173 : zChkF cX12_comesTo 12 3 none false zc_X12_comesTo zc_X12_comesTo = true := by decide +kernel
set_option maxRecDepth 100000 in
theorem zk_174 : zChkF cX12_isThere 12 2 (some .boolean) false zc_X12_isThere zc_X12_isThere = true := by decide +kernel
set_option maxRecDepth 100000 in
theorem zk_175 : zChkF cX12_owner 12 6 (some .int) false zc_X12_owner zc_X12_owner = true := by decide +kernel
set_option maxRecDepth 100000 in
theorem zk_176 : zChkF cX12_gainOf 12 4 (some .int) false zc_X12_gainOf zc_X12_gainOf = true := by decide +kernel
set_option maxRecDepth 100000 in
theorem zk_177 : zChkF cX12_costTo 12 6 (some .int) false zc_X12_costTo zc_X12_costTo = true := by decide +kernel
set_option maxRecDepth 100000 in
theorem zk_178 : zChkF cX12_leftAt 12 6 (some .int) false zc_X12_leftAt zc_X12_leftAt = true := by decide +kernel
set_option maxRecDepth 100000 in
theorem zk_179 : zChkF cX12_whose 12 3 (some .int) false zc_X12_whose zc_X12_whose = true := by decide +kernel
set_option maxRecDepth 100000 in
theorem zk_180 : zChkF cX12_gain 12 3 (some .int) false zc_X12_gain zc_X12_gain = true := by decide +kernel
set_option maxRecDepth 100000 in
theorem zk_181 : zChkF cX12_costs 12 3 (some .int) false zc_X12_costs zc_X12_costs = true := by decide +kernel
set_option maxRecDepth 100000 in
theorem zk_182 : zChkF cX12_year 12 6 (some .int) false zc_X12_year zc_X12_year = true := by decide +kernel
set_option maxRecDepth 100000 in
theorem zk_183 : zChkF cX12_bestPlace 12 5 (some .int) false zc_X12_bestPlace zc_X12_bestPlace = true := by decide +kernel
set_option maxRecDepth 100000 in
theorem zk_184 : zChkF cX12_best 12 5 (some .int) false zc_X12_best zc_X12_best = true := by decide +kernel
set_option maxRecDepth 100000 in
theorem zk_185 : zChkF cX12_wise 12 5 (some .int) false zc_X12_wise zc_X12_wise = true := by decide +kernel
set_option maxRecDepth 100000 in
theorem zk_186 : zChkF cX12_isRest 12 3 (some .boolean) false zc_X12_isRest zc_X12_isRest = true := by decide +kernel
set_option maxRecDepth 100000 in
theorem zk_187 : zChkF cX12_rest 12 2 (some .int) false zc_X12_rest zc_X12_rest = true := by decide +kernel
set_option maxRecDepth 100000 in
theorem zk_188 : zChkF cX12_next0 12 3 (some .boolean) false zc_X12_next0 zc_X12_next0 = true := by decide +kernel
set_option maxRecDepth 100000 in
theorem zk_189 : zChkF cX12_begins 12 3 none false zc_X12_begins zc_X12_begins = true := by decide +kernel
set_option maxRecDepth 100000 in
theorem zk_190 : zChkF cX12_digits 12 4 (some .int) false zc_X12_digits zc_X12_digits = true := by decide +kernel
set_option maxRecDepth 100000 in
theorem zk_191 : zChkF cX12_everybody 12 1 (some .int) false zc_X12_everybody zc_X12_everybody = true := by decide +kernel
set_option maxRecDepth 100000 in
theorem zk_192 : zChkF cX12_ways 12 6 (some .int) false zc_X12_ways zc_X12_ways = true := by decide +kernel
set_option maxRecDepth 100000 in
theorem zk_193 : zChkF cX12_leftOf 12 5 (some .int) false zc_X12_leftOf zc_X12_leftOf = true := by decide +kernel
set_option maxRecDepth 100000 in
theorem zk_194 : zChkF cX12_family 12 8 (some .int) false zc_X12_family zc_X12_family = true := by decide +kernel
set_option maxRecDepth 100000 in
theorem zk_195 : zChkF cX12_gainOfOthers 12 4 (some .int) false zc_X12_gainOfOthers zc_X12_gainOfOthers = true := by decide +kernel
set_option maxRecDepth 100000 in
theorem zk_196 : zChkF cX12_spoil 12 8 (some .int) false zc_X12_spoil zc_X12_spoil = true := by decide +kernel
set_option maxRecDepth 100000 in
theorem zk_197 : zChkF cX12_ransom 12 5 (some .int) false zc_X12_ransom zc_X12_ransom = true := by decide +kernel
set_option maxRecDepth 100000 in
theorem zk_198 : zChkF cX12_dearest 12 4 (some .int) false zc_X12_dearest zc_X12_dearest = true := by decide +kernel
set_option maxRecDepth 100000 in
theorem zk_199 : zChkF cX12_parts 12 9 none false zc_X12_parts zc_X12_parts = true := by decide +kernel
set_option maxRecDepth 100000 in
theorem zk_200 : zChkF cX12_share 12 5 (some .int) false zc_X12_share zc_X12_share = true := by decide +kernel
set_option maxRecDepth 100000 in
theorem zk_201 : zChkF cX12_unfair 12 7 (some .int) false zc_X12_unfair zc_X12_unfair = true := by decide +kernel
set_option maxRecDepth 100000 in
theorem zk_202 : zChkF cX12_worthAt 12 6 (some .int) false zc_X12_worthAt zc_X12_worthAt = true := by decide +kernel
set_option maxRecDepth 100000 in
theorem zk_203 : zChkF cX12_dear 12 6 (some .int) false zc_X12_dear zc_X12_dear = true := by decide +kernel
set_option maxRecDepth 100000 in
theorem zk_204 : zChkF cX12_holds_ 12 8 (some .int) false zc_X12_holds_ zc_X12_holds_ = true := by decide +kernel
set_option maxRecDepth 100000 in
theorem zk_205 : zChkF cX12_sheetWrong 12 2 (some .int) false zc_X12_sheetWrong zc_X12_sheetWrong = true := by decide +kernel
set_option maxRecDepth 100000 in
theorem zk_206 : zChkF cX12_unlike 12 3 (some .int) false zc_X12_unlike zc_X12_unlike = true := by decide +kernel
set_option maxRecDepth 100000 in
theorem zk_207 : zChkF cX12_judge 12 4 (some .int) false zc_X12_judge zc_X12_judge = true := by decide +kernel
set_option maxRecDepth 100000 in
theorem zk_208 : zChkF cX12_when 12 5 (some .int) false zc_X12_when zc_X12_when = true := by decide +kernel
set_option maxRecDepth 100000 in
theorem zk_209 : zChkF cX12_were 12 9 (some .int) false zc_X12_were zc_X12_were = true := by decide +kernel
set_option maxRecDepth 100000 in
theorem zk_210 : zChkF cX12_film 12 4 (some .int) false zc_X12_film zc_X12_film = true := by decide +kernel
set_option maxRecDepth 100000 in
theorem zk_211 : zChkF cX12_laws 12 7 (some .int) false zc_X12_laws zc_X12_laws = true := by decide +kernel
set_option maxRecDepth 100000 in
theorem zk_212 : zChkF cX12_storms 12 7 (some .int) false zc_X12_storms zc_X12_storms = true := by decide +kernel
set_option maxRecDepth 100000 in
theorem zk_213 : zChkF cX12_drawn 12 6 (some .int) false zc_X12_drawn zc_X12_drawn = true := by decide +kernel
set_option maxRecDepth 100000 in
theorem zk_214 : zChkF cX12_lowest 12 11 (some .long) false zc_X12_lowest zc_X12_lowest = true := by decide +kernel
set_option maxRecDepth 100000 in
theorem zk_215 : zChkF cX12_mean 12 9 (some .long) false zc_X12_mean zc_X12_mean = true := by decide +kernel
set_option maxRecDepth 100000 in
theorem zk_216 : zChkF cX12_image 12 2 (some .int) false zc_X12_image zc_X12_image = true := by decide +kernel
set_option maxRecDepth 100000 in
theorem zk_217 : zChkF cX12_back 12 2 (some .int) false zc_X12_back zc_X12_back = true := by decide +kernel
set_option maxRecDepth 100000 in
theorem zk_218 : zChkF cX12_sheet 12 5 (some .int) false zc_X12_sheet zc_X12_sheet = true := by decide +kernel
set_option maxRecDepth 100000 in
theorem zk_219 : zChkF cX12_cell 12 4 (some .int) false zc_X12_cell zc_X12_cell = true := by decide +kernel
set_option maxRecDepth 100000 in
theorem zk_220 : zChkF cX12_copy 12 10 (some .int) false zc_X12_copy zc_X12_copy = true := by decide +kernel
set_option maxRecDepth 100000 in
theorem zk_221 : zChkF cX12_islandsBy 12 9 (some .int) false zc_X12_islandsBy zc_X12_islandsBy = true := by decide +kernel
set_option maxRecDepth 100000 in
theorem zk_222 : zChkF cX12_isUnder 12 2 (some .boolean) false zc_X12_isUnder zc_X12_isUnder = true := by decide +kernel
set_option maxRecDepth 100000 in
theorem zk_223 : zChkF cX12_taken 12 3 (some .int) false zc_X12_taken zc_X12_taken = true := by decide +kernel
set_option maxRecDepth 100000 in
theorem zk_224 : zChkF cJ7_fill_53178 14 4 none false zc_J7_fill_53178 zc_J7_fill_53178 = true := by decide +kernel
set_option maxRecDepth 100000 in
theorem zk_225 : zChkF cJ6_numberOfTrailingZeros_0f7a4 15 2 (some .int) false zc_J6_numberOfTrailingZeros_0f7a4 zc_J6_numberOfTrailingZeros_0f7a4 = true := by decide +kernel
set_option maxRecDepth 100000 in
theorem zk_226 : zChkF cJ7_copyOf_59c91 14 3 (some (.array .int)) false zc_J7_copyOf_59c91 zc_J7_copyOf_59c91 = true := by decide +kernel
set_option maxRecDepth 100000 in
theorem zk_227 : zChkF cL_law 13 4 (some .boolean) false zc_L_law zc_L_law = true := by decide +kernel
