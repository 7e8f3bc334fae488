/-! THE CLASS READS as the rules say -/
theorem c_xRd {n : Nat} {B : Nat → Int32} {tl : List (Nat × Nat)} {q : zR} (hn : n ≤ 160) (hBb : ∀ k, k < n → ∃ c, c < 256 ∧ B k = Int32.ofNat c) :
    ∀ (g l o : Nat), l ≤ 5 → o ≤ 5 → l + 1 + 6 * (5 - o) ≤ g → yxSub (g + 5) ([38, 37, 36, 35, 34, 33].getD l 0) B n o (yxRd B n g l o) tl q := by
  intro g
  induction g with
  | zero => exact fun l o _ _ h => absurd h (by omega)
  | succ g ih =>
    intro l o hl ho hg
    match l, hl with
    | 0, _ => exact c_xOne (d := g) (r0 := yxRd B n g 0) (r5 := yxRd B n g 5) hn hBb ho (fun h => ih 0 (o + 1) (by omega) (by omega) (by omega)) (fun h => ih 5 (o + 1) (by omega) (by omega) (by omega))
    | 1, _ => exact c_xTerm (d := g) hn hBb (ih 0 o (by omega) ho (by omega))
    | 2, _ => exact c_xSum (d := g) hn hBb (ih 1 o (by omega) ho (by omega))
    | 3, _ => exact c_xNot (d := g) (r2 := yxRd B n g 2 o) (r3 := yxRd B n g 3) hn hBb ho (ih 2 o (by omega) ho (by omega)) (fun h => ih 3 (o + 1) (by omega) (by omega) (by omega))
    | 4, _ => exact c_xAnd (d := g) hn hBb (ih 3 o (by omega) ho (by omega))
    | 5, _ => exact c_xOr (d := g) hn hBb (ih 4 o (by omega) ho (by omega))
