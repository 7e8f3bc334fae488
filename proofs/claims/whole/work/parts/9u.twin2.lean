/-! THE TWIN'S STEP and run -/
abbrev yqF : Type := Sum (Nat × zL × List Value × yqT) (Option Value × yqT)
def yqO (ip : Nat) (ls : zL) (st : List Value) (o : Option yqT) : Option yqF := o.elim none (fun m => some (.inl (ip, ls, st, m)))
def yqS (R : Nat → List Value → yqT → Option (Option Value × yqT)) (e : zE) (ip : Nat) (ls : zL) (st : List Value) (m : yqT) : Option yqF :=
  match e with
  | (_, ins, x, y, w, t) =>
  match ins with
  | .iconst _ => some (.inl (ip + 1, ls, .int w :: st, m))
  | .bipush _ => some (.inl (ip + 1, ls, .int w :: st, m))
  | .sipush _ => some (.inl (ip + 1, ls, .int w :: st, m))
  | .ldc _ => match y with
    | 0 => some (.inl (ip + 1, ls, .int w :: st, m))
    | _ + 1 => some (.inl (ip + 1, ls, .ref x :: st, m))
  | .iload_n _ => match zG ls x with | some (.int a) => some (.inl (ip + 1, ls, .int a :: st, m)) | _ => none
  | .iload _ => match zG ls x with | some (.int a) => some (.inl (ip + 1, ls, .int a :: st, m)) | _ => none
  | .aload_n _ => match zG ls x with | some (.ref a) => some (.inl (ip + 1, ls, .ref a :: st, m)) | _ => none
  | .istore_n _ => match st with | .int a :: st => some (.inl (ip + 1, zS1 ls x (.int a), st, m)) | _ => none
  | .istore _ => match st with | .int a :: st => some (.inl (ip + 1, zS1 ls x (.int a), st, m)) | _ => none
  | .astore_n _ => match st with | .ref a :: st => some (.inl (ip + 1, zS1 ls x (.ref a), st, m)) | _ => none
  | .iinc _ _ => match zG ls x with | some (.int a) => some (.inl (ip + 1, zS1 ls x (.int (a + w)), st, m)) | _ => none
  | .dup => match st with | .int a :: st => some (.inl (ip + 1, ls, .int a :: .int a :: st, m)) | .ref a :: st => some (.inl (ip + 1, ls, .ref a :: .ref a :: st, m)) | _ => none
  | .pop => match st with | .int _ :: st => some (.inl (ip + 1, ls, st, m)) | _ => none
  | .goto _ => some (.inl (x, ls, st, m))
  | .ifCond c _ => match st with
    | .int a :: st => (match c with
      | .eq => some (.inl (if a = 0 then x else ip + 1, ls, st, m))
      | .ne => some (.inl (if a = 0 then ip + 1 else x, ls, st, m))
      | .lt => some (.inl (if a < 0 then x else ip + 1, ls, st, m))
      | .ge => some (.inl (if 0 ≤ a then x else ip + 1, ls, st, m))
      | .gt => some (.inl (if 0 < a then x else ip + 1, ls, st, m))
      | .le => some (.inl (if a ≤ 0 then x else ip + 1, ls, st, m)))
    | _ => none
  | .if_icmp c _ => match st with
    | .int b :: .int a :: st => (match c with
      | .eq => some (.inl (if a = b then x else ip + 1, ls, st, m))
      | .ne => some (.inl (if a = b then ip + 1 else x, ls, st, m))
      | .lt => some (.inl (if a < b then x else ip + 1, ls, st, m))
      | .ge => some (.inl (if b ≤ a then x else ip + 1, ls, st, m))
      | .gt => some (.inl (if b < a then x else ip + 1, ls, st, m))
      | .le => some (.inl (if a ≤ b then x else ip + 1, ls, st, m)))
    | _ => none
  | .getfield _ => match st with
    | .ref r :: st => (m[r]?).elim none fun s => bif zSub s.1 y then (match t with
        | [] => some (.inl (ip + 1, ls, .int (s.2.1.getD x 0) :: st, m))
        | _ :: _ => (s.2.2.getD x none).elim none (fun q => some (.inl (ip + 1, ls, .ref q :: st, m)))) else none
    | _ => none
  | .putfield _ => match st with
    | .int a :: .ref r :: st => (m[r]?).elim none fun s => bif zSub s.1 y then (match t with
        | [] => yqO (ip + 1) ls st (yqI m r x a)
        | [2] => if a = 0 ∨ a = 1 then yqO (ip + 1) ls st (yqI m r x a) else none
        | _ => none) else none
    | .ref q :: .ref r :: st => (m[q]?).elim none fun _ => (m[r]?).elim none fun s => bif zSub s.1 y then (match t with
        | [0] => yqO (ip + 1) ls st (yqR m r x (some q))
        | _ => none) else none
    | _ => none
  | .iaload => match st with
    | .int i :: .ref a :: st => (m[a]?).elim none fun s => bif s.1 == 20 then (bif yqB i s.2.1.length then some (.inl (ip + 1, ls, .int (s.2.1.getD i.toNatClampNeg 0) :: st, m)) else none) else none
    | _ => none
  | .iastore => match st with
    | .int v :: .int i :: .ref a :: st => (m[a]?).elim none fun s => bif s.1 == 20 then (bif yqB i s.2.1.length then yqO (ip + 1) ls st (yqI m a i.toNatClampNeg v) else none) else none
    | _ => none
  | .aastore => match st with
    | .ref q :: .int i :: .ref a :: st => (m[a]?).elim none fun s => (m[q]?).elim none fun z => bif s.1 == y && zSub z.1 x then (bif yqB i s.2.1.length then yqO (ip + 1) ls st (yqR m a i.toNatClampNeg (some q)) else none) else none
    | _ => none
  | .arraylength => match st with
    | .ref a :: st => (m[a]?).elim none fun s => bif 20 ≤ s.1 && s.1 ≤ 25 then some (.inl (ip + 1, ls, .int (Int32.ofNat s.2.1.length) :: st, m)) else none
    | _ => none
  | .newarray _ => match st with
    | .int n :: st => bif !(decide (n < 0)) && Nat.ble n.toNatClampNeg 100000 && Nat.blt m.length 900000 then some (.inl (ip + 1, ls, .ref m.length :: st, m ++ [(x, List.replicate n.toNatClampNeg 0, List.replicate n.toNatClampNeg none)])) else none
    | _ => none
  | .anewarray _ => match st with
    | .int n :: st => bif !(decide (n < 0)) && Nat.ble n.toNatClampNeg 100000 && Nat.blt m.length 900000 then some (.inl (ip + 1, ls, .ref m.length :: st, m ++ [(x, List.replicate n.toNatClampNeg 0, List.replicate n.toNatClampNeg none)])) else none
    | _ => none
  | .multianewarray _ _ => match st with
    | .int k :: .int n :: st => bif !(decide (n < 0)) && !(decide (k < 0)) && Nat.ble n.toNatClampNeg 1000 && Nat.ble k.toNatClampNeg 1000 && Nat.blt m.length 900000 then some (.inl (ip + 1, ls, .ref m.length :: st, yqW m n.toNatClampNeg k.toNatClampNeg)) else none
    | _ => none
  | .new _ => bif Nat.blt m.length 900000 then some (.inl (ip + 1, ls, .ref m.length :: st, m ++ [(x, List.replicate y 0, List.replicate y none)])) else none
  | .invokestatic _ => match t with
    | [] => bif Nat.ble y st.length && Nat.ble (st.drop y).length 4 then (R x (st.take y).reverse m).elim none (fun r => some (.inl (ip + 1, ls, r.1.toList ++ st.drop y, r.2))) else none
    | [1] => match st with | .int b :: .int a :: st => bif Nat.ble st.length 4 then some (.inl (ip + 1, ls, .int (if b < a then b else a) :: st, m)) else none | _ => none
    | [4] => match st with
      | .int n :: .int dp :: .ref b :: .int sp :: .ref a :: st => bif !(decide (sp < 0)) && !(decide (dp < 0)) && !(decide (n < 0)) && Nat.ble st.length 4 then yqO (ip + 1) ls st (yqC m a b sp.toNatClampNeg dp.toNatClampNeg n.toNatClampNeg) else none
      | _ => none
    | _ => none
  | .invokespecial _ => match t with
    | [] => match st with | .ref _ :: st => bif Nat.ble st.length 4 then some (.inl (ip + 1, ls, st, m)) else none | _ => none
    | c :: _ => match st.drop y with
      | .ref r :: rest => (m[r]?).elim none fun s => bif zSub s.1 c && Nat.ble rest.length 4 then (R x (.ref r :: (st.take y).reverse) m).elim none (fun q => some (.inl (ip + 1, ls, q.1.toList ++ rest, q.2))) else none
      | _ => none
  | .invokevirtual _ => match t with
    | [] => match x with
      | 0 => match st with
        | .ref a :: st => bif (a == 1000000 || a == 1000001) && Nat.ble st.length 4 then some (.inl (ip + 1, ls, .int (Int32.ofNat (zStr (a - 1000000)).length) :: st, m)) else none
        | _ => none
      | 1 => match st with
        | .int i :: .ref a :: st => bif (a == 1000000 || a == 1000001) && Nat.ble st.length 4 && yqB i (zStr (a - 1000000)).length then some (.inl (ip + 1, ls, .int (Int32.ofNat ((zStr (a - 1000000)).getD i.toNatClampNeg 0)) :: st, m)) else none
        | _ => none
      | _ + 2 => none
    | [c] => match st.drop y with
      | .ref r :: rest => (m[r]?).elim none fun s => bif s.1 == c && Nat.ble rest.length 4 then (R x (.ref r :: (st.take y).reverse) m).elim none (fun q => some (.inl (ip + 1, ls, q.1.toList ++ rest, q.2))) else none
      | _ => none
    | _ => none
  | .return_ => match st with | [] => some (.inr (none, m)) | _ => none
  | .ireturn => match st with | [.int a] => (match t with | [] => some (.inr (some (.int a), m)) | _ => if a = 0 ∨ a = 1 then some (.inr (some (.int a), m)) else none) | _ => none
  | .areturn => match st with | [.ref a] => some (.inr (some (.ref a), m)) | _ => none
  | .iadd => match st with | .int b :: .int a :: st => some (.inl (ip + 1, ls, .int (a + b) :: st, m)) | _ => none
  | .isub => match st with | .int b :: .int a :: st => some (.inl (ip + 1, ls, .int (a - b) :: st, m)) | _ => none
  | .imul => match st with | .int b :: .int a :: st => some (.inl (ip + 1, ls, .int (a * b) :: st, m)) | _ => none
  | _ => none
def yqRun (R : Nat → List Value → yqT → Option (Option Value × yqT)) (cd : List zE) : Nat → Nat → zL → List Value → yqT → Option (Option Value × yqT)
  | 0, _, _, _, _ => none
  | n + 1, ip, ls, st, m => match cd[ip]? with
    | none => none
    | some e => match yqS R e ip ls st m with
      | none => none
      | some (.inl (ip, ls, st, m)) => yqRun R cd n ip ls st m
      | some (.inr r) => some r
noncomputable def yqE (f : Nat) : Nat → Nat → List Value → yqT → Option (Option Value × yqT)
  | 0 => fun _ _ _ => none
  | d + 1 => fun key as m => bif Nat.ble (lg_sl as).length (zml key) then yqRun (yqE f d) (zCodes.getD key []) f 0 (lv_args 0 as) [] m else none
/-- what a step leaves -/
def yqK (bi : zI) (r : yqF) (K : Nat → zL → List Value → zM → Prop) (Z : Option Value → zM → Prop) : Prop := match r with
  | .inl (ip, ls, st, m) => K ip ls st (yqM bi m)
  | .inr (v, m) => Z v (yqM bi m)
theorem yqO_ok {bi : zI} {ip : Nat} {ls : zL} {st : List Value} {o : Option yqT} {r : yqF} {K : Nat → zL → List Value → zM → Prop} {Z : Option Value → zM → Prop} (h : yqO ip ls st o = some r) (hK : yqK bi r K Z) : ∃ m, o = some m ∧ K ip ls st (yqM bi m) := by
  cases o with
  | none => cases h
  | some m =>
    have h : some (Sum.inl (ip, ls, st, m)) = some r := h
    injection h with h
    subst h
    exact ⟨m, rfl, hK⟩
theorem yq_if {c : Prop} {dc : Decidable c} {ip x : Nat} {K : Nat → Prop} (h : K (if c then x else ip)) : (c → K x) ∧ (¬ c → K ip) := by
  constructor
  · intro hc
    rw [if_pos hc] at h
    exact h
  · intro hc
    rw [if_neg hc] at h
    exact h
