/-! THE LAW, a case each; written by a program (mk9z.py) -/
abbrev yYs (x3 : Int32) : zL := [(0, .ref 2000000), (1, .ref 0), (2, .ref 47), (3, .int x3)]
/-- what a call of the law's loop leaves -/
def yYk (tl : List (Nat × Nat)) (im : zI) (tl' : List (Nat × Nat)) (q' : zR) (im' : zI) : Prop := yOk tl' q' im' ∧ im' 2000000 = im 2000000 ∧ im' 2000001 = im 2000001 ∧ tl'.length ≤ tl.length + 12 ∧ zLs tl' ≤ zLs tl + 200
theorem yYg {v : Int64} : lg_cmp v v = 0 := by
  unfold lg_cmp
  rw [if_neg (fun h => Int64.lt_irrefl h), if_pos rfl]
theorem yCallL.ro {D kc km : Nat} {as : List Value} {tl : List (Nat × Nat)} {q : zR} {im : zI} {V : yV} {U : yU} (h : yCallL D kc km as tl q im (yFr im)) (hI : yInv tl q im V U) : yCallL D kc km as tl q im (yOk tl q) := by
  obtain ⟨v, im1, im2, h1, h2, h3⟩ := h
  exact ⟨v, im1, im2, h1, h2, V, U, yInv_fr hI h3⟩
/-- the loop's body, whatever is asked behind it -/
def yYp (tl : List (Nat × Nat)) (im : zI) (x3 : Int32) (A : (Option Value → zM → Prop) → Prop) : Prop := ∃ tl1 q1 im1, yYk tl im tl1 q1 im1 ∧ ∀ Z, zX 43 zc_L_law 1374 (yYs x3) [] (zMm tl1 q1 im1) Z → A Z
theorem yYp_br {tl : List (Nat × Nat)} {im : zI} {x3 : Int32} {c : Prop} {A B : (Option Value → zM → Prop) → Prop} (hA : yYp tl im x3 A) (hB : yYp tl im x3 B) : yYp tl im x3 (fun Z => (c → A Z) ∧ (¬ c → B Z)) := by
  rcases Classical.em c with p | p
  · obtain ⟨tl1, q1, im1, h, hz⟩ := hA
    exact ⟨tl1, q1, im1, h, fun Z hk => ⟨fun _ => hz Z hk, fun hn => absurd p hn⟩⟩
  · obtain ⟨tl1, q1, im1, h, hz⟩ := hB
    exact ⟨tl1, q1, im1, h, fun Z hk => ⟨fun hn => absurd hn p, fun _ => hz Z hk⟩⟩
/-- a place of a call's in the script -/
def yYv (x3 : Int32) (im : zI) : Prop := ∀ k : Nat, 1 ≤ k → k ≤ 6 → vp_in (x3 + Int32.ofNat k) (im 2000001 0).toNatClampNeg
theorem l_22 {tl : List (Nat × Nat)} {q : zR} {im : zI} {V : yV} {U : yU} {x3 : Int32} (hI : yInv tl q im V U) (hl : tl.length ≤ 90000) (hv : yYv x3 im) : yYp tl im x3 (fun Z => zX 43 zc_L_law 22 (yYs x3) [] (zMm tl q im) Z) := by
  have v1 := hv 1 (by decide) (by decide)
  have v2 := hv 2 (by decide) (by decide)
  have hc : yCallA 43 65 141 [.int (im 2000000 (x3 + (1 : Int32)).toNatClampNeg), .int (im 2000000 (x3 + (2 : Int32)).toNatClampNeg)] tl q im := ((k_tide (d := 33) hI).al)
  obtain ⟨v, tl1, q1, im1, im2, h1, h2, h3, h4, h5⟩ := hc
  have hl6 : tl.length ≤ 1000000 := by omega
  have hl7 : tl1.length ≤ 1000000 := by omega
  obtain ⟨s1, s2⟩ := zEv_scr h1 hl7
  obtain ⟨s3, s4⟩ := zEv_scr h2 hl7
  rw [← s1] at h2
  have w1 := v1; rw [← s2] at w1
  have w2 := v2; rw [← s2] at w2
  exact ⟨tl1, q1, im2, ⟨h3, s3.trans s1, s4.trans s2, h4, h5⟩, fun Z hk => t_L_law_22 ⟨hl6, v1, hl6, v2, v, tl1, q1, im1, h1, hl7, w1, hl7, w2, v, tl1, q1, im2, h2, fun _ => hk, fun hn => absurd rfl hn⟩⟩
theorem l_49 {tl : List (Nat × Nat)} {q : zR} {im : zI} {V : yV} {U : yU} {x3 : Int32} (hI : yInv tl q im V U) (hl : tl.length ≤ 90000) (hv : yYv x3 im) : yYp tl im x3 (fun Z => zX 43 zc_L_law 49 (yYs x3) [] (zMm tl q im) Z) := by
  have v1 := hv 1 (by decide) (by decide)
  have hc : yCallA 43 66 142 [.int (im 2000000 (x3 + (1 : Int32)).toNatClampNeg)] tl q im := (((k_height (d := 33) hI.1).ro hI).al)
  obtain ⟨v, tl1, q1, im1, im2, h1, h2, h3, h4, h5⟩ := hc
  have hl6 : tl.length ≤ 1000000 := by omega
  have hl7 : tl1.length ≤ 1000000 := by omega
  obtain ⟨s1, s2⟩ := zEv_scr h1 hl7
  obtain ⟨s3, s4⟩ := zEv_scr h2 hl7
  rw [← s1] at h2
  have w1 := v1; rw [← s2] at w1
  exact ⟨tl1, q1, im2, ⟨h3, s3.trans s1, s4.trans s2, h4, h5⟩, fun Z hk => t_L_law_49 ⟨hl6, v1, v, tl1, q1, im1, h1, hl7, w1, v, tl1, q1, im2, h2, fun _ => hk, fun hn => absurd rfl hn⟩⟩
theorem l_66 {tl : List (Nat × Nat)} {q : zR} {im : zI} {V : yV} {U : yU} {x3 : Int32} (hI : yInv tl q im V U) (hl : tl.length ≤ 90000) (hv : yYv x3 im) : yYp tl im x3 (fun Z => zX 43 zc_L_law 66 (yYs x3) [] (zMm tl q im) Z) := by
  have hc : yCallA 43 67 143 [] tl q im := ((k_come (d := 33) hI).al)
  obtain ⟨v, tl1, q1, im1, im2, h1, h2, h3, h4, h5⟩ := hc
  have hl6 : tl.length ≤ 1000000 := by omega
  have hl7 : tl1.length ≤ 1000000 := by omega
  obtain ⟨s1, s2⟩ := zEv_scr h1 hl7
  obtain ⟨s3, s4⟩ := zEv_scr h2 hl7
  exact ⟨tl1, q1, im2, ⟨h3, s3.trans s1, s4.trans s2, h4, h5⟩, fun Z hk => t_L_law_66 ⟨v, tl1, q1, im1, h1, v, tl1, q1, im2, h2, fun _ => hk, fun hn => absurd rfl hn⟩⟩
theorem l_73 {tl : List (Nat × Nat)} {q : zR} {im : zI} {V : yV} {U : yU} {x3 : Int32} (hI : yInv tl q im V U) (hl : tl.length ≤ 90000) (hv : yYv x3 im) : yYp tl im x3 (fun Z => zX 43 zc_L_law 73 (yYs x3) [] (zMm tl q im) Z) := by
  have v1 := hv 1 (by decide) (by decide)
  have v2 := hv 2 (by decide) (by decide)
  have v3 := hv 3 (by decide) (by decide)
  have hc : yCallA 43 68 144 [.int (im 2000000 (x3 + (1 : Int32)).toNatClampNeg), .int (im 2000000 (x3 + (2 : Int32)).toNatClampNeg), .int (im 2000000 (x3 + (3 : Int32)).toNatClampNeg)] tl q im := ((k_go (d := 33) hI).al)
  obtain ⟨v, tl1, q1, im1, im2, h1, h2, h3, h4, h5⟩ := hc
  have hl6 : tl.length ≤ 1000000 := by omega
  have hl7 : tl1.length ≤ 1000000 := by omega
  obtain ⟨s1, s2⟩ := zEv_scr h1 hl7
  obtain ⟨s3, s4⟩ := zEv_scr h2 hl7
  rw [← s1] at h2
  have w1 := v1; rw [← s2] at w1
  have w2 := v2; rw [← s2] at w2
  have w3 := v3; rw [← s2] at w3
  exact ⟨tl1, q1, im2, ⟨h3, s3.trans s1, s4.trans s2, h4, h5⟩, fun Z hk => t_L_law_73 ⟨hl6, v1, hl6, v2, hl6, v3, v, tl1, q1, im1, h1, hl7, w1, hl7, w2, hl7, w3, v, tl1, q1, im2, h2, fun _ => hk, fun hn => absurd rfl hn⟩⟩
theorem l_110 {tl : List (Nat × Nat)} {q : zR} {im : zI} {V : yV} {U : yU} {x3 : Int32} (hI : yInv tl q im V U) (hl : tl.length ≤ 90000) (hv : yYv x3 im) : yYp tl im x3 (fun Z => zX 43 zc_L_law 110 (yYs x3) [] (zMm tl q im) Z) := by
  have v1 := hv 1 (by decide) (by decide)
  have v2 := hv 2 (by decide) (by decide)
  have hc : yCallA 43 69 145 [.int (im 2000000 (x3 + (1 : Int32)).toNatClampNeg), .int (im 2000000 (x3 + (2 : Int32)).toNatClampNeg)] tl q im := (((k_at (d := 33) hI.1).ro hI).al)
  obtain ⟨v, tl1, q1, im1, im2, h1, h2, h3, h4, h5⟩ := hc
  have hl6 : tl.length ≤ 1000000 := by omega
  have hl7 : tl1.length ≤ 1000000 := by omega
  obtain ⟨s1, s2⟩ := zEv_scr h1 hl7
  obtain ⟨s3, s4⟩ := zEv_scr h2 hl7
  rw [← s1] at h2
  have w1 := v1; rw [← s2] at w1
  have w2 := v2; rw [← s2] at w2
  exact ⟨tl1, q1, im2, ⟨h3, s3.trans s1, s4.trans s2, h4, h5⟩, fun Z hk => t_L_law_110 ⟨hl6, v1, hl6, v2, v, tl1, q1, im1, h1, hl7, w1, hl7, w2, v, tl1, q1, im2, h2, fun _ => hk, fun hn => absurd rfl hn⟩⟩
theorem l_137 {tl : List (Nat × Nat)} {q : zR} {im : zI} {V : yV} {U : yU} {x3 : Int32} (hI : yInv tl q im V U) (hl : tl.length ≤ 90000) (hv : yYv x3 im) : yYp tl im x3 (fun Z => zX 43 zc_L_law 137 (yYs x3) [] (zMm tl q im) Z) := by
  have v1 := hv 1 (by decide) (by decide)
  have hc : yCallA 43 70 146 [.int (im 2000000 (x3 + (1 : Int32)).toNatClampNeg)] tl q im := ((k_count (d := 33) hI).al)
  obtain ⟨v, tl1, q1, im1, im2, h1, h2, h3, h4, h5⟩ := hc
  have hl6 : tl.length ≤ 1000000 := by omega
  have hl7 : tl1.length ≤ 1000000 := by omega
  obtain ⟨s1, s2⟩ := zEv_scr h1 hl7
  obtain ⟨s3, s4⟩ := zEv_scr h2 hl7
  rw [← s1] at h2
  have w1 := v1; rw [← s2] at w1
  exact ⟨tl1, q1, im2, ⟨h3, s3.trans s1, s4.trans s2, h4, h5⟩, fun Z hk => t_L_law_137 ⟨hl6, v1, v, tl1, q1, im1, h1, hl7, w1, v, tl1, q1, im2, h2, fun _ => hk, fun hn => absurd rfl hn⟩⟩
theorem l_154 {tl : List (Nat × Nat)} {q : zR} {im : zI} {V : yV} {U : yU} {x3 : Int32} (hI : yInv tl q im V U) (hl : tl.length ≤ 90000) (hv : yYv x3 im) : yYp tl im x3 (fun Z => zX 43 zc_L_law 154 (yYs x3) [] (zMm tl q im) Z) := by
  have v1 := hv 1 (by decide) (by decide)
  have v2 := hv 2 (by decide) (by decide)
  have v3 := hv 3 (by decide) (by decide)
  have v4 := hv 4 (by decide) (by decide)
  have v5 := hv 5 (by decide) (by decide)
  have v6 := hv 6 (by decide) (by decide)
  have hc : yCallA 43 71 148 [.int (im 2000000 (x3 + (1 : Int32)).toNatClampNeg), .int (im 2000000 (x3 + (2 : Int32)).toNatClampNeg), .int (im 2000000 (x3 + (3 : Int32)).toNatClampNeg), .int (im 2000000 (x3 + (4 : Int32)).toNatClampNeg), .int (im 2000000 (x3 + (5 : Int32)).toNatClampNeg), .int (im 2000000 (x3 + (6 : Int32)).toNatClampNeg)] tl q im := ((k_feed (d := 33) hI).al)
  obtain ⟨v, tl1, q1, im1, im2, h1, h2, h3, h4, h5⟩ := hc
  have hl6 : tl.length ≤ 1000000 := by omega
  have hl7 : tl1.length ≤ 1000000 := by omega
  obtain ⟨s1, s2⟩ := zEv_scr h1 hl7
  obtain ⟨s3, s4⟩ := zEv_scr h2 hl7
  rw [← s1] at h2
  have w1 := v1; rw [← s2] at w1
  have w2 := v2; rw [← s2] at w2
  have w3 := v3; rw [← s2] at w3
  have w4 := v4; rw [← s2] at w4
  have w5 := v5; rw [← s2] at w5
  have w6 := v6; rw [← s2] at w6
  exact ⟨tl1, q1, im2, ⟨h3, s3.trans s1, s4.trans s2, h4, h5⟩, fun Z hk => t_L_law_154 ⟨hl6, v1, hl6, v2, hl6, v3, hl6, v4, hl6, v5, hl6, v6, v, tl1, q1, im1, h1, hl7, w1, hl7, w2, hl7, w3, hl7, w4, hl7, w5, hl7, w6, v, tl1, q1, im2, h2, fun _ => hk, fun hn => absurd rfl hn⟩⟩
theorem l_221 {tl : List (Nat × Nat)} {q : zR} {im : zI} {V : yV} {U : yU} {x3 : Int32} (hI : yInv tl q im V U) (hl : tl.length ≤ 90000) (hv : yYv x3 im) : yYp tl im x3 (fun Z => zX 43 zc_L_law 221 (yYs x3) [] (zMm tl q im) Z) := by
  have hc : yCallA 43 72 159 [] tl q im := (k_text hI (by omega))
  obtain ⟨v, tl1, q1, im1, im2, h1, h2, h3, h4, h5⟩ := hc
  have hl6 : tl.length ≤ 1000000 := by omega
  have hl7 : tl1.length ≤ 1000000 := by omega
  obtain ⟨s1, s2⟩ := zEv_scr h1 hl7
  obtain ⟨s3, s4⟩ := zEv_scr h2 hl7
  exact ⟨tl1, q1, im2, ⟨h3, s3.trans s1, s4.trans s2, h4, h5⟩, fun Z hk => t_L_law_221 ⟨v, tl1, q1, im1, h1, v, tl1, q1, im2, h2, fun _ => hk, fun hn => absurd rfl hn⟩⟩
theorem l_228 {tl : List (Nat × Nat)} {q : zR} {im : zI} {V : yV} {U : yU} {x3 : Int32} (hI : yInv tl q im V U) (hl : tl.length ≤ 90000) (hv : yYv x3 im) : yYp tl im x3 (fun Z => zX 43 zc_L_law 228 (yYs x3) [] (zMm tl q im) Z) := by
  have v1 := hv 1 (by decide) (by decide)
  have hc : yCallA 43 73 162 [.int (im 2000000 (x3 + (1 : Int32)).toNatClampNeg)] tl q im := ((k_force (d := 33) hI).al)
  obtain ⟨v, tl1, q1, im1, im2, h1, h2, h3, h4, h5⟩ := hc
  have hl6 : tl.length ≤ 1000000 := by omega
  have hl7 : tl1.length ≤ 1000000 := by omega
  obtain ⟨s1, s2⟩ := zEv_scr h1 hl7
  obtain ⟨s3, s4⟩ := zEv_scr h2 hl7
  rw [← s1] at h2
  have w1 := v1; rw [← s2] at w1
  exact ⟨tl1, q1, im2, ⟨h3, s3.trans s1, s4.trans s2, h4, h5⟩, fun Z hk => t_L_law_228 ⟨hl6, v1, v, tl1, q1, im1, h1, hl7, w1, v, tl1, q1, im2, h2, fun _ => hk, fun hn => absurd rfl hn⟩⟩
theorem l_245 {tl : List (Nat × Nat)} {q : zR} {im : zI} {V : yV} {U : yU} {x3 : Int32} (hI : yInv tl q im V U) (hl : tl.length ≤ 90000) (hv : yYv x3 im) : yYp tl im x3 (fun Z => zX 43 zc_L_law 245 (yYs x3) [] (zMm tl q im) Z) := by
  have v1 := hv 1 (by decide) (by decide)
  have v2 := hv 2 (by decide) (by decide)
  have v3 := hv 3 (by decide) (by decide)
  have v4 := hv 4 (by decide) (by decide)
  have v5 := hv 5 (by decide) (by decide)
  have hc : yCallA 43 74 164 [.int (im 2000000 (x3 + (1 : Int32)).toNatClampNeg), .int (im 2000000 (x3 + (2 : Int32)).toNatClampNeg), .int (im 2000000 (x3 + (3 : Int32)).toNatClampNeg), .int (im 2000000 (x3 + (4 : Int32)).toNatClampNeg), .int (im 2000000 (x3 + (5 : Int32)).toNatClampNeg)] tl q im := (((k_asks (d := 33) hI.1).ro hI).al)
  obtain ⟨v, tl1, q1, im1, im2, h1, h2, h3, h4, h5⟩ := hc
  have hl6 : tl.length ≤ 1000000 := by omega
  have hl7 : tl1.length ≤ 1000000 := by omega
  obtain ⟨s1, s2⟩ := zEv_scr h1 hl7
  obtain ⟨s3, s4⟩ := zEv_scr h2 hl7
  rw [← s1] at h2
  have w1 := v1; rw [← s2] at w1
  have w2 := v2; rw [← s2] at w2
  have w3 := v3; rw [← s2] at w3
  have w4 := v4; rw [← s2] at w4
  have w5 := v5; rw [← s2] at w5
  exact ⟨tl1, q1, im2, ⟨h3, s3.trans s1, s4.trans s2, h4, h5⟩, fun Z hk => t_L_law_245 ⟨hl6, v1, hl6, v2, hl6, v3, hl6, v4, hl6, v5, v, tl1, q1, im1, h1, hl7, w1, hl7, w2, hl7, w3, hl7, w4, hl7, w5, v, tl1, q1, im2, h2, fun _ => hk, fun hn => absurd rfl hn⟩⟩
theorem l_302 {tl : List (Nat × Nat)} {q : zR} {im : zI} {V : yV} {U : yU} {x3 : Int32} (hI : yInv tl q im V U) (hl : tl.length ≤ 90000) (hv : yYv x3 im) : yYp tl im x3 (fun Z => zX 43 zc_L_law 302 (yYs x3) [] (zMm tl q im) Z) := by
  have v1 := hv 1 (by decide) (by decide)
  have v2 := hv 2 (by decide) (by decide)
  have v3 := hv 3 (by decide) (by decide)
  have v4 := hv 4 (by decide) (by decide)
  have hc : yCallA 43 75 165 [.int (im 2000000 (x3 + (1 : Int32)).toNatClampNeg), .int (im 2000000 (x3 + (2 : Int32)).toNatClampNeg), .int (im 2000000 (x3 + (3 : Int32)).toNatClampNeg), .int (im 2000000 (x3 + (4 : Int32)).toNatClampNeg)] tl q im := (k_island (d := 33) hI (by omega))
  obtain ⟨v, tl1, q1, im1, im2, h1, h2, h3, h4, h5⟩ := hc
  have hl6 : tl.length ≤ 1000000 := by omega
  have hl7 : tl1.length ≤ 1000000 := by omega
  obtain ⟨s1, s2⟩ := zEv_scr h1 hl7
  obtain ⟨s3, s4⟩ := zEv_scr h2 hl7
  rw [← s1] at h2
  have w1 := v1; rw [← s2] at w1
  have w2 := v2; rw [← s2] at w2
  have w3 := v3; rw [← s2] at w3
  have w4 := v4; rw [← s2] at w4
  exact ⟨tl1, q1, im2, ⟨h3, s3.trans s1, s4.trans s2, h4, h5⟩, fun Z hk => t_L_law_302 ⟨hl6, v1, hl6, v2, hl6, v3, hl6, v4, v, tl1, q1, im1, h1, hl7, w1, hl7, w2, hl7, w3, hl7, w4, v, tl1, q1, im2, h2, fun _ => hk, fun hn => absurd rfl hn⟩⟩
theorem l_349 {tl : List (Nat × Nat)} {q : zR} {im : zI} {V : yV} {U : yU} {x3 : Int32} (hI : yInv tl q im V U) (hl : tl.length ≤ 90000) (hv : yYv x3 im) : yYp tl im x3 (fun Z => zX 43 zc_L_law 349 (yYs x3) [] (zMm tl q im) Z) := by
  have v1 := hv 1 (by decide) (by decide)
  have v2 := hv 2 (by decide) (by decide)
  have hc : yCallA 43 76 166 [.int (im 2000000 (x3 + (1 : Int32)).toNatClampNeg), .int (im 2000000 (x3 + (2 : Int32)).toNatClampNeg)] tl q im := (((k_told (d := 33) hI.1).ro hI).al)
  obtain ⟨v, tl1, q1, im1, im2, h1, h2, h3, h4, h5⟩ := hc
  have hl6 : tl.length ≤ 1000000 := by omega
  have hl7 : tl1.length ≤ 1000000 := by omega
  obtain ⟨s1, s2⟩ := zEv_scr h1 hl7
  obtain ⟨s3, s4⟩ := zEv_scr h2 hl7
  rw [← s1] at h2
  have w1 := v1; rw [← s2] at w1
  have w2 := v2; rw [← s2] at w2
  exact ⟨tl1, q1, im2, ⟨h3, s3.trans s1, s4.trans s2, h4, h5⟩, fun Z hk => t_L_law_349 ⟨hl6, v1, hl6, v2, v, tl1, q1, im1, h1, hl7, w1, hl7, w2, v, tl1, q1, im2, h2, fun _ => hk, fun hn => absurd rfl hn⟩⟩
theorem l_376 {tl : List (Nat × Nat)} {q : zR} {im : zI} {V : yV} {U : yU} {x3 : Int32} (hI : yInv tl q im V U) (hl : tl.length ≤ 90000) (hv : yYv x3 im) : yYp tl im x3 (fun Z => zX 43 zc_L_law 376 (yYs x3) [] (zMm tl q im) Z) := by
  have v1 := hv 1 (by decide) (by decide)
  have v2 := hv 2 (by decide) (by decide)
  have v3 := hv 3 (by decide) (by decide)
  have hc : yCallA 43 77 171 [.int (im 2000000 (x3 + (1 : Int32)).toNatClampNeg), .int (im 2000000 (x3 + (2 : Int32)).toNatClampNeg), .int (im 2000000 (x3 + (3 : Int32)).toNatClampNeg)] tl q im := (((k_then (d := 33) hI.1).ro hI).al)
  obtain ⟨v, tl1, q1, im1, im2, h1, h2, h3, h4, h5⟩ := hc
  have hl6 : tl.length ≤ 1000000 := by omega
  have hl7 : tl1.length ≤ 1000000 := by omega
  obtain ⟨s1, s2⟩ := zEv_scr h1 hl7
  obtain ⟨s3, s4⟩ := zEv_scr h2 hl7
  rw [← s1] at h2
  have w1 := v1; rw [← s2] at w1
  have w2 := v2; rw [← s2] at w2
  have w3 := v3; rw [← s2] at w3
  exact ⟨tl1, q1, im2, ⟨h3, s3.trans s1, s4.trans s2, h4, h5⟩, fun Z hk => t_L_law_376 ⟨hl6, v1, hl6, v2, hl6, v3, v, tl1, q1, im1, h1, hl7, w1, hl7, w2, hl7, w3, v, tl1, q1, im2, h2, fun _ => hk, fun hn => absurd rfl hn⟩⟩
theorem l_413 {tl : List (Nat × Nat)} {q : zR} {im : zI} {V : yV} {U : yU} {x3 : Int32} (hI : yInv tl q im V U) (hl : tl.length ≤ 90000) (hv : yYv x3 im) : yYp tl im x3 (fun Z => zX 43 zc_L_law 413 (yYs x3) [] (zMm tl q im) Z) := by
  have v1 := hv 1 (by decide) (by decide)
  have v2 := hv 2 (by decide) (by decide)
  have hc : yCallA 43 78 172 [.int (im 2000000 (x3 + (1 : Int32)).toNatClampNeg), .int (im 2000000 (x3 + (2 : Int32)).toNatClampNeg)] tl q im := (((k_joined (d := 33) hI.1).ro hI).al)
  obtain ⟨v, tl1, q1, im1, im2, h1, h2, h3, h4, h5⟩ := hc
  have hl6 : tl.length ≤ 1000000 := by omega
  have hl7 : tl1.length ≤ 1000000 := by omega
  obtain ⟨s1, s2⟩ := zEv_scr h1 hl7
  obtain ⟨s3, s4⟩ := zEv_scr h2 hl7
  rw [← s1] at h2
  have w1 := v1; rw [← s2] at w1
  have w2 := v2; rw [← s2] at w2
  exact ⟨tl1, q1, im2, ⟨h3, s3.trans s1, s4.trans s2, h4, h5⟩, fun Z hk => t_L_law_413 ⟨hl6, v1, hl6, v2, v, tl1, q1, im1, h1, hl7, w1, hl7, w2, v, tl1, q1, im2, h2, fun _ => hk, fun hn => absurd rfl hn⟩⟩
theorem l_440 {tl : List (Nat × Nat)} {q : zR} {im : zI} {V : yV} {U : yU} {x3 : Int32} (hI : yInv tl q im V U) (hl : tl.length ≤ 90000) (hv : yYv x3 im) : yYp tl im x3 (fun Z => zX 43 zc_L_law 440 (yYs x3) [] (zMm tl q im) Z) := by
  have v1 := hv 1 (by decide) (by decide)
  have v2 := hv 2 (by decide) (by decide)
  have hc : yCallA 43 79 179 [.int (im 2000000 (x3 + (1 : Int32)).toNatClampNeg), .int (im 2000000 (x3 + (2 : Int32)).toNatClampNeg)] tl q im := (((k_whose (d := 33) hI.1).ro hI).al)
  obtain ⟨v, tl1, q1, im1, im2, h1, h2, h3, h4, h5⟩ := hc
  have hl6 : tl.length ≤ 1000000 := by omega
  have hl7 : tl1.length ≤ 1000000 := by omega
  obtain ⟨s1, s2⟩ := zEv_scr h1 hl7
  obtain ⟨s3, s4⟩ := zEv_scr h2 hl7
  rw [← s1] at h2
  have w1 := v1; rw [← s2] at w1
  have w2 := v2; rw [← s2] at w2
  exact ⟨tl1, q1, im2, ⟨h3, s3.trans s1, s4.trans s2, h4, h5⟩, fun Z hk => t_L_law_440 ⟨hl6, v1, hl6, v2, v, tl1, q1, im1, h1, hl7, w1, hl7, w2, v, tl1, q1, im2, h2, fun _ => hk, fun hn => absurd rfl hn⟩⟩
theorem l_467 {tl : List (Nat × Nat)} {q : zR} {im : zI} {V : yV} {U : yU} {x3 : Int32} (hI : yInv tl q im V U) (hl : tl.length ≤ 90000) (hv : yYv x3 im) : yYp tl im x3 (fun Z => zX 43 zc_L_law 467 (yYs x3) [] (zMm tl q im) Z) := by
  have v1 := hv 1 (by decide) (by decide)
  have v2 := hv 2 (by decide) (by decide)
  have hc : yCallA 43 80 180 [.int (im 2000000 (x3 + (1 : Int32)).toNatClampNeg), .int (im 2000000 (x3 + (2 : Int32)).toNatClampNeg)] tl q im := (((k_gain (d := 33) hI.1).ro hI).al)
  obtain ⟨v, tl1, q1, im1, im2, h1, h2, h3, h4, h5⟩ := hc
  have hl6 : tl.length ≤ 1000000 := by omega
  have hl7 : tl1.length ≤ 1000000 := by omega
  obtain ⟨s1, s2⟩ := zEv_scr h1 hl7
  obtain ⟨s3, s4⟩ := zEv_scr h2 hl7
  rw [← s1] at h2
  have w1 := v1; rw [← s2] at w1
  have w2 := v2; rw [← s2] at w2
  exact ⟨tl1, q1, im2, ⟨h3, s3.trans s1, s4.trans s2, h4, h5⟩, fun Z hk => t_L_law_467 ⟨hl6, v1, hl6, v2, v, tl1, q1, im1, h1, hl7, w1, hl7, w2, v, tl1, q1, im2, h2, fun _ => hk, fun hn => absurd rfl hn⟩⟩
theorem l_494 {tl : List (Nat × Nat)} {q : zR} {im : zI} {V : yV} {U : yU} {x3 : Int32} (hI : yInv tl q im V U) (hl : tl.length ≤ 90000) (hv : yYv x3 im) : yYp tl im x3 (fun Z => zX 43 zc_L_law 494 (yYs x3) [] (zMm tl q im) Z) := by
  have v1 := hv 1 (by decide) (by decide)
  have v2 := hv 2 (by decide) (by decide)
  have hc : yCallA 43 81 181 [.int (im 2000000 (x3 + (1 : Int32)).toNatClampNeg), .int (im 2000000 (x3 + (2 : Int32)).toNatClampNeg)] tl q im := (((k_costs (d := 33) hI.1).ro hI).al)
  obtain ⟨v, tl1, q1, im1, im2, h1, h2, h3, h4, h5⟩ := hc
  have hl6 : tl.length ≤ 1000000 := by omega
  have hl7 : tl1.length ≤ 1000000 := by omega
  obtain ⟨s1, s2⟩ := zEv_scr h1 hl7
  obtain ⟨s3, s4⟩ := zEv_scr h2 hl7
  rw [← s1] at h2
  have w1 := v1; rw [← s2] at w1
  have w2 := v2; rw [← s2] at w2
  exact ⟨tl1, q1, im2, ⟨h3, s3.trans s1, s4.trans s2, h4, h5⟩, fun Z hk => t_L_law_494 ⟨hl6, v1, hl6, v2, v, tl1, q1, im1, h1, hl7, w1, hl7, w2, v, tl1, q1, im2, h2, fun _ => hk, fun hn => absurd rfl hn⟩⟩
theorem l_521 {tl : List (Nat × Nat)} {q : zR} {im : zI} {V : yV} {U : yU} {x3 : Int32} (hI : yInv tl q im V U) (hl : tl.length ≤ 90000) (hv : yYv x3 im) : yYp tl im x3 (fun Z => zX 43 zc_L_law 521 (yYs x3) [] (zMm tl q im) Z) := by
  have v1 := hv 1 (by decide) (by decide)
  have v2 := hv 2 (by decide) (by decide)
  have hc : yCallA 43 82 182 [.int (im 2000000 (x3 + (1 : Int32)).toNatClampNeg), .int (im 2000000 (x3 + (2 : Int32)).toNatClampNeg)] tl q im := (((k_year (d := 33) hI.1).ro hI).al)
  obtain ⟨v, tl1, q1, im1, im2, h1, h2, h3, h4, h5⟩ := hc
  have hl6 : tl.length ≤ 1000000 := by omega
  have hl7 : tl1.length ≤ 1000000 := by omega
  obtain ⟨s1, s2⟩ := zEv_scr h1 hl7
  obtain ⟨s3, s4⟩ := zEv_scr h2 hl7
  rw [← s1] at h2
  have w1 := v1; rw [← s2] at w1
  have w2 := v2; rw [← s2] at w2
  exact ⟨tl1, q1, im2, ⟨h3, s3.trans s1, s4.trans s2, h4, h5⟩, fun Z hk => t_L_law_521 ⟨hl6, v1, hl6, v2, v, tl1, q1, im1, h1, hl7, w1, hl7, w2, v, tl1, q1, im2, h2, fun _ => hk, fun hn => absurd rfl hn⟩⟩
theorem l_548 {tl : List (Nat × Nat)} {q : zR} {im : zI} {V : yV} {U : yU} {x3 : Int32} (hI : yInv tl q im V U) (hl : tl.length ≤ 90000) (hv : yYv x3 im) : yYp tl im x3 (fun Z => zX 43 zc_L_law 548 (yYs x3) [] (zMm tl q im) Z) := by
  have v1 := hv 1 (by decide) (by decide)
  have v2 := hv 2 (by decide) (by decide)
  have v3 := hv 3 (by decide) (by decide)
  have hc : yCallA 43 83 184 [.int (im 2000000 (x3 + (1 : Int32)).toNatClampNeg), .int (im 2000000 (x3 + (2 : Int32)).toNatClampNeg), .int (im 2000000 (x3 + (3 : Int32)).toNatClampNeg)] tl q im := (((k_best (d := 33) hI.1).ro hI).al)
  obtain ⟨v, tl1, q1, im1, im2, h1, h2, h3, h4, h5⟩ := hc
  have hl6 : tl.length ≤ 1000000 := by omega
  have hl7 : tl1.length ≤ 1000000 := by omega
  obtain ⟨s1, s2⟩ := zEv_scr h1 hl7
  obtain ⟨s3, s4⟩ := zEv_scr h2 hl7
  rw [← s1] at h2
  have w1 := v1; rw [← s2] at w1
  have w2 := v2; rw [← s2] at w2
  have w3 := v3; rw [← s2] at w3
  exact ⟨tl1, q1, im2, ⟨h3, s3.trans s1, s4.trans s2, h4, h5⟩, fun Z hk => t_L_law_548 ⟨hl6, v1, hl6, v2, hl6, v3, v, tl1, q1, im1, h1, hl7, w1, hl7, w2, hl7, w3, v, tl1, q1, im2, h2, fun _ => hk, fun hn => absurd rfl hn⟩⟩
theorem l_585 {tl : List (Nat × Nat)} {q : zR} {im : zI} {V : yV} {U : yU} {x3 : Int32} (hI : yInv tl q im V U) (hl : tl.length ≤ 90000) (hv : yYv x3 im) : yYp tl im x3 (fun Z => zX 43 zc_L_law 585 (yYs x3) [] (zMm tl q im) Z) := by
  have v1 := hv 1 (by decide) (by decide)
  have hc : yCallA 43 84 185 [.int (im 2000000 (x3 + (1 : Int32)).toNatClampNeg)] tl q im := ((k_wise (d := 33) hI).al)
  obtain ⟨v, tl1, q1, im1, im2, h1, h2, h3, h4, h5⟩ := hc
  have hl6 : tl.length ≤ 1000000 := by omega
  have hl7 : tl1.length ≤ 1000000 := by omega
  obtain ⟨s1, s2⟩ := zEv_scr h1 hl7
  obtain ⟨s3, s4⟩ := zEv_scr h2 hl7
  rw [← s1] at h2
  have w1 := v1; rw [← s2] at w1
  exact ⟨tl1, q1, im2, ⟨h3, s3.trans s1, s4.trans s2, h4, h5⟩, fun Z hk => t_L_law_585 ⟨hl6, v1, v, tl1, q1, im1, h1, hl7, w1, v, tl1, q1, im2, h2, fun _ => hk, fun hn => absurd rfl hn⟩⟩
theorem l_602 {tl : List (Nat × Nat)} {q : zR} {im : zI} {V : yV} {U : yU} {x3 : Int32} (hI : yInv tl q im V U) (hl : tl.length ≤ 90000) (hv : yYv x3 im) : yYp tl im x3 (fun Z => zX 43 zc_L_law 602 (yYs x3) [] (zMm tl q im) Z) := by
  have v1 := hv 1 (by decide) (by decide)
  have hc : yCallA 43 85 187 [.int (im 2000000 (x3 + (1 : Int32)).toNatClampNeg)] tl q im := (((k_rest (d := 33) hI.1).ro hI).al)
  obtain ⟨v, tl1, q1, im1, im2, h1, h2, h3, h4, h5⟩ := hc
  have hl6 : tl.length ≤ 1000000 := by omega
  have hl7 : tl1.length ≤ 1000000 := by omega
  obtain ⟨s1, s2⟩ := zEv_scr h1 hl7
  obtain ⟨s3, s4⟩ := zEv_scr h2 hl7
  rw [← s1] at h2
  have w1 := v1; rw [← s2] at w1
  exact ⟨tl1, q1, im2, ⟨h3, s3.trans s1, s4.trans s2, h4, h5⟩, fun Z hk => t_L_law_602 ⟨hl6, v1, v, tl1, q1, im1, h1, hl7, w1, v, tl1, q1, im2, h2, fun _ => hk, fun hn => absurd rfl hn⟩⟩
theorem l_619 {tl : List (Nat × Nat)} {q : zR} {im : zI} {V : yV} {U : yU} {x3 : Int32} (hI : yInv tl q im V U) (hl : tl.length ≤ 90000) (hv : yYv x3 im) : yYp tl im x3 (fun Z => zX 43 zc_L_law 619 (yYs x3) [] (zMm tl q im) Z) := by
  have v1 := hv 1 (by decide) (by decide)
  have v2 := hv 2 (by decide) (by decide)
  have hc : yCallA 43 86 192 [.int (im 2000000 (x3 + (1 : Int32)).toNatClampNeg), .int (im 2000000 (x3 + (2 : Int32)).toNatClampNeg)] tl q im := (((k_ways (d := 33) hI.1).ro hI).al)
  obtain ⟨v, tl1, q1, im1, im2, h1, h2, h3, h4, h5⟩ := hc
  have hl6 : tl.length ≤ 1000000 := by omega
  have hl7 : tl1.length ≤ 1000000 := by omega
  obtain ⟨s1, s2⟩ := zEv_scr h1 hl7
  obtain ⟨s3, s4⟩ := zEv_scr h2 hl7
  rw [← s1] at h2
  have w1 := v1; rw [← s2] at w1
  have w2 := v2; rw [← s2] at w2
  exact ⟨tl1, q1, im2, ⟨h3, s3.trans s1, s4.trans s2, h4, h5⟩, fun Z hk => t_L_law_619 ⟨hl6, v1, hl6, v2, v, tl1, q1, im1, h1, hl7, w1, hl7, w2, v, tl1, q1, im2, h2, fun _ => hk, fun hn => absurd rfl hn⟩⟩
theorem l_646 {tl : List (Nat × Nat)} {q : zR} {im : zI} {V : yV} {U : yU} {x3 : Int32} (hI : yInv tl q im V U) (hl : tl.length ≤ 90000) (hv : yYv x3 im) : yYp tl im x3 (fun Z => zX 43 zc_L_law 646 (yYs x3) [] (zMm tl q im) Z) := by
  have v1 := hv 1 (by decide) (by decide)
  have v2 := hv 2 (by decide) (by decide)
  have v3 := hv 3 (by decide) (by decide)
  have hc : yCallA 43 87 194 [.int (im 2000000 (x3 + (1 : Int32)).toNatClampNeg), .int (im 2000000 (x3 + (2 : Int32)).toNatClampNeg), .int (im 2000000 (x3 + (3 : Int32)).toNatClampNeg)] tl q im := (((k_family (d := 33) hI.1).ro hI).al)
  obtain ⟨v, tl1, q1, im1, im2, h1, h2, h3, h4, h5⟩ := hc
  have hl6 : tl.length ≤ 1000000 := by omega
  have hl7 : tl1.length ≤ 1000000 := by omega
  obtain ⟨s1, s2⟩ := zEv_scr h1 hl7
  obtain ⟨s3, s4⟩ := zEv_scr h2 hl7
  rw [← s1] at h2
  have w1 := v1; rw [← s2] at w1
  have w2 := v2; rw [← s2] at w2
  have w3 := v3; rw [← s2] at w3
  exact ⟨tl1, q1, im2, ⟨h3, s3.trans s1, s4.trans s2, h4, h5⟩, fun Z hk => t_L_law_646 ⟨hl6, v1, hl6, v2, hl6, v3, v, tl1, q1, im1, h1, hl7, w1, hl7, w2, hl7, w3, v, tl1, q1, im2, h2, fun _ => hk, fun hn => absurd rfl hn⟩⟩
theorem l_683 {tl : List (Nat × Nat)} {q : zR} {im : zI} {V : yV} {U : yU} {x3 : Int32} (hI : yInv tl q im V U) (hl : tl.length ≤ 90000) (hv : yYv x3 im) : yYp tl im x3 (fun Z => zX 43 zc_L_law 683 (yYs x3) [] (zMm tl q im) Z) := by
  have v1 := hv 1 (by decide) (by decide)
  have v2 := hv 2 (by decide) (by decide)
  have v3 := hv 3 (by decide) (by decide)
  have hc : yCallA 43 88 196 [.int (im 2000000 (x3 + (1 : Int32)).toNatClampNeg), .int (im 2000000 (x3 + (2 : Int32)).toNatClampNeg), .int (im 2000000 (x3 + (3 : Int32)).toNatClampNeg)] tl q im := (((k_spoil (d := 33) hI.1).ro hI).al)
  obtain ⟨v, tl1, q1, im1, im2, h1, h2, h3, h4, h5⟩ := hc
  have hl6 : tl.length ≤ 1000000 := by omega
  have hl7 : tl1.length ≤ 1000000 := by omega
  obtain ⟨s1, s2⟩ := zEv_scr h1 hl7
  obtain ⟨s3, s4⟩ := zEv_scr h2 hl7
  rw [← s1] at h2
  have w1 := v1; rw [← s2] at w1
  have w2 := v2; rw [← s2] at w2
  have w3 := v3; rw [← s2] at w3
  exact ⟨tl1, q1, im2, ⟨h3, s3.trans s1, s4.trans s2, h4, h5⟩, fun Z hk => t_L_law_683 ⟨hl6, v1, hl6, v2, hl6, v3, v, tl1, q1, im1, h1, hl7, w1, hl7, w2, hl7, w3, v, tl1, q1, im2, h2, fun _ => hk, fun hn => absurd rfl hn⟩⟩
theorem l_720 {tl : List (Nat × Nat)} {q : zR} {im : zI} {V : yV} {U : yU} {x3 : Int32} (hI : yInv tl q im V U) (hl : tl.length ≤ 90000) (hv : yYv x3 im) : yYp tl im x3 (fun Z => zX 43 zc_L_law 720 (yYs x3) [] (zMm tl q im) Z) := by
  have v1 := hv 1 (by decide) (by decide)
  have v2 := hv 2 (by decide) (by decide)
  have v3 := hv 3 (by decide) (by decide)
  have hc : yCallA 43 89 197 [.int (im 2000000 (x3 + (1 : Int32)).toNatClampNeg), .int (im 2000000 (x3 + (2 : Int32)).toNatClampNeg), .int (im 2000000 (x3 + (3 : Int32)).toNatClampNeg)] tl q im := (((k_ransom (d := 33) hI.1).ro hI).al)
  obtain ⟨v, tl1, q1, im1, im2, h1, h2, h3, h4, h5⟩ := hc
  have hl6 : tl.length ≤ 1000000 := by omega
  have hl7 : tl1.length ≤ 1000000 := by omega
  obtain ⟨s1, s2⟩ := zEv_scr h1 hl7
  obtain ⟨s3, s4⟩ := zEv_scr h2 hl7
  rw [← s1] at h2
  have w1 := v1; rw [← s2] at w1
  have w2 := v2; rw [← s2] at w2
  have w3 := v3; rw [← s2] at w3
  exact ⟨tl1, q1, im2, ⟨h3, s3.trans s1, s4.trans s2, h4, h5⟩, fun Z hk => t_L_law_720 ⟨hl6, v1, hl6, v2, hl6, v3, v, tl1, q1, im1, h1, hl7, w1, hl7, w2, hl7, w3, v, tl1, q1, im2, h2, fun _ => hk, fun hn => absurd rfl hn⟩⟩
theorem l_757 {tl : List (Nat × Nat)} {q : zR} {im : zI} {V : yV} {U : yU} {x3 : Int32} (hI : yInv tl q im V U) (hl : tl.length ≤ 90000) (hv : yYv x3 im) : yYp tl im x3 (fun Z => zX 43 zc_L_law 757 (yYs x3) [] (zMm tl q im) Z) := by
  have v1 := hv 1 (by decide) (by decide)
  have v2 := hv 2 (by decide) (by decide)
  have v3 := hv 3 (by decide) (by decide)
  have v4 := hv 4 (by decide) (by decide)
  have hc : yCallA 43 90 200 [.int (im 2000000 (x3 + (1 : Int32)).toNatClampNeg), .int (im 2000000 (x3 + (2 : Int32)).toNatClampNeg), .int (im 2000000 (x3 + (3 : Int32)).toNatClampNeg), .int (im 2000000 (x3 + (4 : Int32)).toNatClampNeg)] tl q im := (((k_share (d := 33) hI.1).ro hI).al)
  obtain ⟨v, tl1, q1, im1, im2, h1, h2, h3, h4, h5⟩ := hc
  have hl6 : tl.length ≤ 1000000 := by omega
  have hl7 : tl1.length ≤ 1000000 := by omega
  obtain ⟨s1, s2⟩ := zEv_scr h1 hl7
  obtain ⟨s3, s4⟩ := zEv_scr h2 hl7
  rw [← s1] at h2
  have w1 := v1; rw [← s2] at w1
  have w2 := v2; rw [← s2] at w2
  have w3 := v3; rw [← s2] at w3
  have w4 := v4; rw [← s2] at w4
  exact ⟨tl1, q1, im2, ⟨h3, s3.trans s1, s4.trans s2, h4, h5⟩, fun Z hk => t_L_law_757 ⟨hl6, v1, hl6, v2, hl6, v3, hl6, v4, v, tl1, q1, im1, h1, hl7, w1, hl7, w2, hl7, w3, hl7, w4, v, tl1, q1, im2, h2, fun _ => hk, fun hn => absurd rfl hn⟩⟩
theorem l_804 {tl : List (Nat × Nat)} {q : zR} {im : zI} {V : yV} {U : yU} {x3 : Int32} (hI : yInv tl q im V U) (hl : tl.length ≤ 90000) (hv : yYv x3 im) : yYp tl im x3 (fun Z => zX 43 zc_L_law 804 (yYs x3) [] (zMm tl q im) Z) := by
  have v1 := hv 1 (by decide) (by decide)
  have v2 := hv 2 (by decide) (by decide)
  have v3 := hv 3 (by decide) (by decide)
  have hc : yCallA 43 91 201 [.int (im 2000000 (x3 + (1 : Int32)).toNatClampNeg), .int (im 2000000 (x3 + (2 : Int32)).toNatClampNeg), .int (im 2000000 (x3 + (3 : Int32)).toNatClampNeg)] tl q im := (((k_unfair (d := 33) hI.1).ro hI).al)
  obtain ⟨v, tl1, q1, im1, im2, h1, h2, h3, h4, h5⟩ := hc
  have hl6 : tl.length ≤ 1000000 := by omega
  have hl7 : tl1.length ≤ 1000000 := by omega
  obtain ⟨s1, s2⟩ := zEv_scr h1 hl7
  obtain ⟨s3, s4⟩ := zEv_scr h2 hl7
  rw [← s1] at h2
  have w1 := v1; rw [← s2] at w1
  have w2 := v2; rw [← s2] at w2
  have w3 := v3; rw [← s2] at w3
  exact ⟨tl1, q1, im2, ⟨h3, s3.trans s1, s4.trans s2, h4, h5⟩, fun Z hk => t_L_law_804 ⟨hl6, v1, hl6, v2, hl6, v3, v, tl1, q1, im1, h1, hl7, w1, hl7, w2, hl7, w3, v, tl1, q1, im2, h2, fun _ => hk, fun hn => absurd rfl hn⟩⟩
theorem l_841 {tl : List (Nat × Nat)} {q : zR} {im : zI} {V : yV} {U : yU} {x3 : Int32} (hI : yInv tl q im V U) (hl : tl.length ≤ 90000) (hv : yYv x3 im) : yYp tl im x3 (fun Z => zX 43 zc_L_law 841 (yYs x3) [] (zMm tl q im) Z) := by
  have v1 := hv 1 (by decide) (by decide)
  have hc : yCallA 43 92 203 [.int (im 2000000 (x3 + (1 : Int32)).toNatClampNeg)] tl q im := (((k_dear (d := 33) hI.1).ro hI).al)
  obtain ⟨v, tl1, q1, im1, im2, h1, h2, h3, h4, h5⟩ := hc
  have hl6 : tl.length ≤ 1000000 := by omega
  have hl7 : tl1.length ≤ 1000000 := by omega
  obtain ⟨s1, s2⟩ := zEv_scr h1 hl7
  obtain ⟨s3, s4⟩ := zEv_scr h2 hl7
  rw [← s1] at h2
  have w1 := v1; rw [← s2] at w1
  exact ⟨tl1, q1, im2, ⟨h3, s3.trans s1, s4.trans s2, h4, h5⟩, fun Z hk => t_L_law_841 ⟨hl6, v1, v, tl1, q1, im1, h1, hl7, w1, v, tl1, q1, im2, h2, fun _ => hk, fun hn => absurd rfl hn⟩⟩
theorem l_858 {tl : List (Nat × Nat)} {q : zR} {im : zI} {V : yV} {U : yU} {x3 : Int32} (hI : yInv tl q im V U) (hl : tl.length ≤ 90000) (hv : yYv x3 im) : yYp tl im x3 (fun Z => zX 43 zc_L_law 858 (yYs x3) [] (zMm tl q im) Z) := by
  have v1 := hv 1 (by decide) (by decide)
  have v2 := hv 2 (by decide) (by decide)
  have v3 := hv 3 (by decide) (by decide)
  have hc : yCallA 43 93 204 [.int (im 2000000 (x3 + (1 : Int32)).toNatClampNeg), .int (im 2000000 (x3 + (2 : Int32)).toNatClampNeg), .int (im 2000000 (x3 + (3 : Int32)).toNatClampNeg)] tl q im := (((k_holds (d := 33) hI.1).ro hI).al)
  obtain ⟨v, tl1, q1, im1, im2, h1, h2, h3, h4, h5⟩ := hc
  have hl6 : tl.length ≤ 1000000 := by omega
  have hl7 : tl1.length ≤ 1000000 := by omega
  obtain ⟨s1, s2⟩ := zEv_scr h1 hl7
  obtain ⟨s3, s4⟩ := zEv_scr h2 hl7
  rw [← s1] at h2
  have w1 := v1; rw [← s2] at w1
  have w2 := v2; rw [← s2] at w2
  have w3 := v3; rw [← s2] at w3
  exact ⟨tl1, q1, im2, ⟨h3, s3.trans s1, s4.trans s2, h4, h5⟩, fun Z hk => t_L_law_858 ⟨hl6, v1, hl6, v2, hl6, v3, v, tl1, q1, im1, h1, hl7, w1, hl7, w2, hl7, w3, v, tl1, q1, im2, h2, fun _ => hk, fun hn => absurd rfl hn⟩⟩
theorem l_895 {tl : List (Nat × Nat)} {q : zR} {im : zI} {V : yV} {U : yU} {x3 : Int32} (hI : yInv tl q im V U) (hl : tl.length ≤ 90000) (hv : yYv x3 im) : yYp tl im x3 (fun Z => zX 43 zc_L_law 895 (yYs x3) [] (zMm tl q im) Z) := by
  have v1 := hv 1 (by decide) (by decide)
  have v2 := hv 2 (by decide) (by decide)
  have hc : yCallA 43 94 207 [.int (im 2000000 (x3 + (1 : Int32)).toNatClampNeg), .int (im 2000000 (x3 + (2 : Int32)).toNatClampNeg)] tl q im := (((k_judge (d := 33) hI.1 hI.2.1).ro hI).al)
  obtain ⟨v, tl1, q1, im1, im2, h1, h2, h3, h4, h5⟩ := hc
  have hl6 : tl.length ≤ 1000000 := by omega
  have hl7 : tl1.length ≤ 1000000 := by omega
  obtain ⟨s1, s2⟩ := zEv_scr h1 hl7
  obtain ⟨s3, s4⟩ := zEv_scr h2 hl7
  rw [← s1] at h2
  have w1 := v1; rw [← s2] at w1
  have w2 := v2; rw [← s2] at w2
  exact ⟨tl1, q1, im2, ⟨h3, s3.trans s1, s4.trans s2, h4, h5⟩, fun Z hk => t_L_law_895 ⟨hl6, v1, hl6, v2, v, tl1, q1, im1, h1, hl7, w1, hl7, w2, v, tl1, q1, im2, h2, fun _ => hk, fun hn => absurd rfl hn⟩⟩
theorem l_922 {tl : List (Nat × Nat)} {q : zR} {im : zI} {V : yV} {U : yU} {x3 : Int32} (hI : yInv tl q im V U) (hl : tl.length ≤ 90000) (hv : yYv x3 im) : yYp tl im x3 (fun Z => zX 43 zc_L_law 922 (yYs x3) [] (zMm tl q im) Z) := by
  have v1 := hv 1 (by decide) (by decide)
  have hc : yCallA 43 95 208 [.int (im 2000000 (x3 + (1 : Int32)).toNatClampNeg)] tl q im := (((k_when (d := 33) hI.1 hI.2.1).ro hI).al)
  obtain ⟨v, tl1, q1, im1, im2, h1, h2, h3, h4, h5⟩ := hc
  have hl6 : tl.length ≤ 1000000 := by omega
  have hl7 : tl1.length ≤ 1000000 := by omega
  obtain ⟨s1, s2⟩ := zEv_scr h1 hl7
  obtain ⟨s3, s4⟩ := zEv_scr h2 hl7
  rw [← s1] at h2
  have w1 := v1; rw [← s2] at w1
  exact ⟨tl1, q1, im2, ⟨h3, s3.trans s1, s4.trans s2, h4, h5⟩, fun Z hk => t_L_law_922 ⟨hl6, v1, v, tl1, q1, im1, h1, hl7, w1, v, tl1, q1, im2, h2, fun _ => hk, fun hn => absurd rfl hn⟩⟩
theorem l_939 {tl : List (Nat × Nat)} {q : zR} {im : zI} {V : yV} {U : yU} {x3 : Int32} (hI : yInv tl q im V U) (hl : tl.length ≤ 90000) (hv : yYv x3 im) : yYp tl im x3 (fun Z => zX 43 zc_L_law 939 (yYs x3) [] (zMm tl q im) Z) := by
  have v1 := hv 1 (by decide) (by decide)
  have v2 := hv 2 (by decide) (by decide)
  have v3 := hv 3 (by decide) (by decide)
  have v4 := hv 4 (by decide) (by decide)
  have hc : yCallA 43 96 209 [.int (im 2000000 (x3 + (1 : Int32)).toNatClampNeg), .int (im 2000000 (x3 + (2 : Int32)).toNatClampNeg), .int (im 2000000 (x3 + (3 : Int32)).toNatClampNeg), .int (im 2000000 (x3 + (4 : Int32)).toNatClampNeg)] tl q im := (((k_were (d := 33) hI.1 hI.2.1).ro hI).al)
  obtain ⟨v, tl1, q1, im1, im2, h1, h2, h3, h4, h5⟩ := hc
  have hl6 : tl.length ≤ 1000000 := by omega
  have hl7 : tl1.length ≤ 1000000 := by omega
  obtain ⟨s1, s2⟩ := zEv_scr h1 hl7
  obtain ⟨s3, s4⟩ := zEv_scr h2 hl7
  rw [← s1] at h2
  have w1 := v1; rw [← s2] at w1
  have w2 := v2; rw [← s2] at w2
  have w3 := v3; rw [← s2] at w3
  have w4 := v4; rw [← s2] at w4
  exact ⟨tl1, q1, im2, ⟨h3, s3.trans s1, s4.trans s2, h4, h5⟩, fun Z hk => t_L_law_939 ⟨hl6, v1, hl6, v2, hl6, v3, hl6, v4, v, tl1, q1, im1, h1, hl7, w1, hl7, w2, hl7, w3, hl7, w4, v, tl1, q1, im2, h2, fun _ => hk, fun hn => absurd rfl hn⟩⟩
theorem l_986 {tl : List (Nat × Nat)} {q : zR} {im : zI} {V : yV} {U : yU} {x3 : Int32} (hI : yInv tl q im V U) (hl : tl.length ≤ 90000) (hv : yYv x3 im) : yYp tl im x3 (fun Z => zX 43 zc_L_law 986 (yYs x3) [] (zMm tl q im) Z) := by
  have v1 := hv 1 (by decide) (by decide)
  have v2 := hv 2 (by decide) (by decide)
  have hc : yCallA 43 97 210 [.int (im 2000000 (x3 + (1 : Int32)).toNatClampNeg), .int (im 2000000 (x3 + (2 : Int32)).toNatClampNeg)] tl q im := ((k_film (d := 33) hI).al)
  obtain ⟨v, tl1, q1, im1, im2, h1, h2, h3, h4, h5⟩ := hc
  have hl6 : tl.length ≤ 1000000 := by omega
  have hl7 : tl1.length ≤ 1000000 := by omega
  obtain ⟨s1, s2⟩ := zEv_scr h1 hl7
  obtain ⟨s3, s4⟩ := zEv_scr h2 hl7
  rw [← s1] at h2
  have w1 := v1; rw [← s2] at w1
  have w2 := v2; rw [← s2] at w2
  exact ⟨tl1, q1, im2, ⟨h3, s3.trans s1, s4.trans s2, h4, h5⟩, fun Z hk => t_L_law_986 ⟨hl6, v1, hl6, v2, v, tl1, q1, im1, h1, hl7, w1, hl7, w2, v, tl1, q1, im2, h2, fun _ => hk, fun hn => absurd rfl hn⟩⟩
theorem l_1013 {tl : List (Nat × Nat)} {q : zR} {im : zI} {V : yV} {U : yU} {x3 : Int32} (hI : yInv tl q im V U) (hl : tl.length ≤ 90000) (hv : yYv x3 im) : yYp tl im x3 (fun Z => zX 43 zc_L_law 1013 (yYs x3) [] (zMm tl q im) Z) := by
  have v1 := hv 1 (by decide) (by decide)
  have v2 := hv 2 (by decide) (by decide)
  have v3 := hv 3 (by decide) (by decide)
  have hc : yCallA 43 98 211 [.int (im 2000000 (x3 + (1 : Int32)).toNatClampNeg), .int (im 2000000 (x3 + (2 : Int32)).toNatClampNeg), .int (im 2000000 (x3 + (3 : Int32)).toNatClampNeg)] tl q im := (((k_laws (d := 33) hI.1).ro hI).al)
  obtain ⟨v, tl1, q1, im1, im2, h1, h2, h3, h4, h5⟩ := hc
  have hl6 : tl.length ≤ 1000000 := by omega
  have hl7 : tl1.length ≤ 1000000 := by omega
  obtain ⟨s1, s2⟩ := zEv_scr h1 hl7
  obtain ⟨s3, s4⟩ := zEv_scr h2 hl7
  rw [← s1] at h2
  have w1 := v1; rw [← s2] at w1
  have w2 := v2; rw [← s2] at w2
  have w3 := v3; rw [← s2] at w3
  exact ⟨tl1, q1, im2, ⟨h3, s3.trans s1, s4.trans s2, h4, h5⟩, fun Z hk => t_L_law_1013 ⟨hl6, v1, hl6, v2, hl6, v3, v, tl1, q1, im1, h1, hl7, w1, hl7, w2, hl7, w3, v, tl1, q1, im2, h2, fun _ => hk, fun hn => absurd rfl hn⟩⟩
theorem l_1050 {tl : List (Nat × Nat)} {q : zR} {im : zI} {V : yV} {U : yU} {x3 : Int32} (hI : yInv tl q im V U) (hl : tl.length ≤ 90000) (hv : yYv x3 im) : yYp tl im x3 (fun Z => zX 43 zc_L_law 1050 (yYs x3) [] (zMm tl q im) Z) := by
  have v1 := hv 1 (by decide) (by decide)
  have v2 := hv 2 (by decide) (by decide)
  have v3 := hv 3 (by decide) (by decide)
  have v4 := hv 4 (by decide) (by decide)
  have hc : yCallA 43 99 213 [.int (im 2000000 (x3 + (1 : Int32)).toNatClampNeg), .int (im 2000000 (x3 + (2 : Int32)).toNatClampNeg), .int (im 2000000 (x3 + (3 : Int32)).toNatClampNeg), .int (im 2000000 (x3 + (4 : Int32)).toNatClampNeg)] tl q im := (((k_drawn (d := 33) hI.1).ro hI).al)
  obtain ⟨v, tl1, q1, im1, im2, h1, h2, h3, h4, h5⟩ := hc
  have hl6 : tl.length ≤ 1000000 := by omega
  have hl7 : tl1.length ≤ 1000000 := by omega
  obtain ⟨s1, s2⟩ := zEv_scr h1 hl7
  obtain ⟨s3, s4⟩ := zEv_scr h2 hl7
  rw [← s1] at h2
  have w1 := v1; rw [← s2] at w1
  have w2 := v2; rw [← s2] at w2
  have w3 := v3; rw [← s2] at w3
  have w4 := v4; rw [← s2] at w4
  exact ⟨tl1, q1, im2, ⟨h3, s3.trans s1, s4.trans s2, h4, h5⟩, fun Z hk => t_L_law_1050 ⟨hl6, v1, hl6, v2, hl6, v3, hl6, v4, v, tl1, q1, im1, h1, hl7, w1, hl7, w2, hl7, w3, hl7, w4, v, tl1, q1, im2, h2, fun _ => hk, fun hn => absurd rfl hn⟩⟩
theorem l_1097 {tl : List (Nat × Nat)} {q : zR} {im : zI} {V : yV} {U : yU} {x3 : Int32} (hI : yInv tl q im V U) (hl : tl.length ≤ 90000) (hv : yYv x3 im) : yYp tl im x3 (fun Z => zX 43 zc_L_law 1097 (yYs x3) [] (zMm tl q im) Z) := by
  have v1 := hv 1 (by decide) (by decide)
  have v2 := hv 2 (by decide) (by decide)
  have v3 := hv 3 (by decide) (by decide)
  have v4 := hv 4 (by decide) (by decide)
  have v5 := hv 5 (by decide) (by decide)
  have hc : yCallL 43 100 215 [.int (im 2000000 (x3 + (1 : Int32)).toNatClampNeg), .int (im 2000000 (x3 + (2 : Int32)).toNatClampNeg), .int (im 2000000 (x3 + (3 : Int32)).toNatClampNeg), .int (im 2000000 (x3 + (4 : Int32)).toNatClampNeg), .int (im 2000000 (x3 + (5 : Int32)).toNatClampNeg)] tl q im (yOk tl q) := ((k_mean (d := 33) hI.1).ro hI)
  obtain ⟨v, im1, im2, h1, h2, h3⟩ := hc
  have hl6 : tl.length ≤ 1000000 := by omega
  obtain ⟨s1, s2⟩ := zEv_scr h1 hl6
  obtain ⟨s3, s4⟩ := zEv_scr h2 hl6
  rw [← s1] at h2
  have w1 := v1; rw [← s2] at w1
  have w2 := v2; rw [← s2] at w2
  have w3 := v3; rw [← s2] at w3
  have w4 := v4; rw [← s2] at w4
  have w5 := v5; rw [← s2] at w5
  exact ⟨tl, q, im2, ⟨h3, s3.trans s1, s4.trans s2, by omega, by omega⟩, fun Z hk => t_L_law_1097 ⟨hl6, v1, hl6, v2, hl6, v3, hl6, v4, hl6, v5, v, im1, h1, hl6, w1, hl6, w2, hl6, w3, hl6, w4, hl6, w5, v, im2, h2, fun _ => hk, fun hn => absurd yYg hn⟩⟩
theorem l_1155 {tl : List (Nat × Nat)} {q : zR} {im : zI} {V : yV} {U : yU} {x3 : Int32} (hI : yInv tl q im V U) (hl : tl.length ≤ 90000) (hv : yYv x3 im) : yYp tl im x3 (fun Z => zX 43 zc_L_law 1155 (yYs x3) [] (zMm tl q im) Z) := by
  have hc : yCallA 43 101 216 [] tl q im := ((k_image (d := 33) hI).al)
  obtain ⟨v, tl1, q1, im1, im2, h1, h2, h3, h4, h5⟩ := hc
  have hl6 : tl.length ≤ 1000000 := by omega
  have hl7 : tl1.length ≤ 1000000 := by omega
  obtain ⟨s1, s2⟩ := zEv_scr h1 hl7
  obtain ⟨s3, s4⟩ := zEv_scr h2 hl7
  exact ⟨tl1, q1, im2, ⟨h3, s3.trans s1, s4.trans s2, h4, h5⟩, fun Z hk => t_L_law_1155 ⟨v, tl1, q1, im1, h1, v, tl1, q1, im2, h2, fun _ => hk, fun hn => absurd rfl hn⟩⟩
theorem l_1162 {tl : List (Nat × Nat)} {q : zR} {im : zI} {V : yV} {U : yU} {x3 : Int32} (hI : yInv tl q im V U) (hl : tl.length ≤ 90000) (hv : yYv x3 im) : yYp tl im x3 (fun Z => zX 43 zc_L_law 1162 (yYs x3) [] (zMm tl q im) Z) := by
  have hc : yCallA 43 102 217 [] tl q im := ((k_back (d := 33) hI).al)
  obtain ⟨v, tl1, q1, im1, im2, h1, h2, h3, h4, h5⟩ := hc
  have hl6 : tl.length ≤ 1000000 := by omega
  have hl7 : tl1.length ≤ 1000000 := by omega
  obtain ⟨s1, s2⟩ := zEv_scr h1 hl7
  obtain ⟨s3, s4⟩ := zEv_scr h2 hl7
  exact ⟨tl1, q1, im2, ⟨h3, s3.trans s1, s4.trans s2, h4, h5⟩, fun Z hk => t_L_law_1162 ⟨v, tl1, q1, im1, h1, v, tl1, q1, im2, h2, fun _ => hk, fun hn => absurd rfl hn⟩⟩
theorem l_1169 {tl : List (Nat × Nat)} {q : zR} {im : zI} {V : yV} {U : yU} {x3 : Int32} (hI : yInv tl q im V U) (hl : tl.length ≤ 90000) (hv : yYv x3 im) : yYp tl im x3 (fun Z => zX 43 zc_L_law 1169 (yYs x3) [] (zMm tl q im) Z) := by
  have v1 := hv 1 (by decide) (by decide)
  have v2 := hv 2 (by decide) (by decide)
  have v3 := hv 3 (by decide) (by decide)
  have hc : yCallA 43 103 218 [.int (im 2000000 (x3 + (1 : Int32)).toNatClampNeg), .int (im 2000000 (x3 + (2 : Int32)).toNatClampNeg), .int (im 2000000 (x3 + (3 : Int32)).toNatClampNeg)] tl q im := ((k_sheet (d := 33) hI).al)
  obtain ⟨v, tl1, q1, im1, im2, h1, h2, h3, h4, h5⟩ := hc
  have hl6 : tl.length ≤ 1000000 := by omega
  have hl7 : tl1.length ≤ 1000000 := by omega
  obtain ⟨s1, s2⟩ := zEv_scr h1 hl7
  obtain ⟨s3, s4⟩ := zEv_scr h2 hl7
  rw [← s1] at h2
  have w1 := v1; rw [← s2] at w1
  have w2 := v2; rw [← s2] at w2
  have w3 := v3; rw [← s2] at w3
  exact ⟨tl1, q1, im2, ⟨h3, s3.trans s1, s4.trans s2, h4, h5⟩, fun Z hk => t_L_law_1169 ⟨hl6, v1, hl6, v2, hl6, v3, v, tl1, q1, im1, h1, hl7, w1, hl7, w2, hl7, w3, v, tl1, q1, im2, h2, fun _ => hk, fun hn => absurd rfl hn⟩⟩
theorem l_1206 {tl : List (Nat × Nat)} {q : zR} {im : zI} {V : yV} {U : yU} {x3 : Int32} (hI : yInv tl q im V U) (hl : tl.length ≤ 90000) (hv : yYv x3 im) : yYp tl im x3 (fun Z => zX 43 zc_L_law 1206 (yYs x3) [] (zMm tl q im) Z) := by
  have v1 := hv 1 (by decide) (by decide)
  have v2 := hv 2 (by decide) (by decide)
  have v3 := hv 3 (by decide) (by decide)
  have hc : yCallA 43 104 219 [.int (im 2000000 (x3 + (1 : Int32)).toNatClampNeg), .int (im 2000000 (x3 + (2 : Int32)).toNatClampNeg), .int (im 2000000 (x3 + (3 : Int32)).toNatClampNeg)] tl q im := ((k_cell (d := 33) hI).al)
  obtain ⟨v, tl1, q1, im1, im2, h1, h2, h3, h4, h5⟩ := hc
  have hl6 : tl.length ≤ 1000000 := by omega
  have hl7 : tl1.length ≤ 1000000 := by omega
  obtain ⟨s1, s2⟩ := zEv_scr h1 hl7
  obtain ⟨s3, s4⟩ := zEv_scr h2 hl7
  rw [← s1] at h2
  have w1 := v1; rw [← s2] at w1
  have w2 := v2; rw [← s2] at w2
  have w3 := v3; rw [← s2] at w3
  exact ⟨tl1, q1, im2, ⟨h3, s3.trans s1, s4.trans s2, h4, h5⟩, fun Z hk => t_L_law_1206 ⟨hl6, v1, hl6, v2, hl6, v3, v, tl1, q1, im1, h1, hl7, w1, hl7, w2, hl7, w3, v, tl1, q1, im2, h2, fun _ => hk, fun hn => absurd rfl hn⟩⟩
theorem l_1243 {tl : List (Nat × Nat)} {q : zR} {im : zI} {V : yV} {U : yU} {x3 : Int32} (hI : yInv tl q im V U) (hl : tl.length ≤ 90000) (hv : yYv x3 im) : yYp tl im x3 (fun Z => zX 43 zc_L_law 1243 (yYs x3) [] (zMm tl q im) Z) := by
  have v1 := hv 1 (by decide) (by decide)
  have v2 := hv 2 (by decide) (by decide)
  have v3 := hv 3 (by decide) (by decide)
  have v4 := hv 4 (by decide) (by decide)
  have v5 := hv 5 (by decide) (by decide)
  have hc : yCallA 43 105 220 [.int (im 2000000 (x3 + (1 : Int32)).toNatClampNeg), .int (im 2000000 (x3 + (2 : Int32)).toNatClampNeg), .int (im 2000000 (x3 + (3 : Int32)).toNatClampNeg), .int (im 2000000 (x3 + (4 : Int32)).toNatClampNeg), .int (im 2000000 (x3 + (5 : Int32)).toNatClampNeg)] tl q im := ((k_copy (d := 33) hI).al)
  obtain ⟨v, tl1, q1, im1, im2, h1, h2, h3, h4, h5⟩ := hc
  have hl6 : tl.length ≤ 1000000 := by omega
  have hl7 : tl1.length ≤ 1000000 := by omega
  obtain ⟨s1, s2⟩ := zEv_scr h1 hl7
  obtain ⟨s3, s4⟩ := zEv_scr h2 hl7
  rw [← s1] at h2
  have w1 := v1; rw [← s2] at w1
  have w2 := v2; rw [← s2] at w2
  have w3 := v3; rw [← s2] at w3
  have w4 := v4; rw [← s2] at w4
  have w5 := v5; rw [← s2] at w5
  exact ⟨tl1, q1, im2, ⟨h3, s3.trans s1, s4.trans s2, h4, h5⟩, fun Z hk => t_L_law_1243 ⟨hl6, v1, hl6, v2, hl6, v3, hl6, v4, hl6, v5, v, tl1, q1, im1, h1, hl7, w1, hl7, w2, hl7, w3, hl7, w4, hl7, w5, v, tl1, q1, im2, h2, fun _ => hk, fun hn => absurd rfl hn⟩⟩
theorem l_1300 {tl : List (Nat × Nat)} {q : zR} {im : zI} {V : yV} {U : yU} {x3 : Int32} (hI : yInv tl q im V U) (hl : tl.length ≤ 90000) (hv : yYv x3 im) : yYp tl im x3 (fun Z => zX 43 zc_L_law 1300 (yYs x3) [] (zMm tl q im) Z) := by
  have v1 := hv 1 (by decide) (by decide)
  have v2 := hv 2 (by decide) (by decide)
  have v3 := hv 3 (by decide) (by decide)
  have v4 := hv 4 (by decide) (by decide)
  have hc : yCallA 43 106 221 [.int (im 2000000 (x3 + (1 : Int32)).toNatClampNeg), .int (im 2000000 (x3 + (2 : Int32)).toNatClampNeg), .int (im 2000000 (x3 + (3 : Int32)).toNatClampNeg), .int (im 2000000 (x3 + (4 : Int32)).toNatClampNeg)] tl q im := (k_islandsBy (d := 33) hI (by omega))
  obtain ⟨v, tl1, q1, im1, im2, h1, h2, h3, h4, h5⟩ := hc
  have hl6 : tl.length ≤ 1000000 := by omega
  have hl7 : tl1.length ≤ 1000000 := by omega
  obtain ⟨s1, s2⟩ := zEv_scr h1 hl7
  obtain ⟨s3, s4⟩ := zEv_scr h2 hl7
  rw [← s1] at h2
  have w1 := v1; rw [← s2] at w1
  have w2 := v2; rw [← s2] at w2
  have w3 := v3; rw [← s2] at w3
  have w4 := v4; rw [← s2] at w4
  exact ⟨tl1, q1, im2, ⟨h3, s3.trans s1, s4.trans s2, h4, h5⟩, fun Z hk => t_L_law_1300 ⟨hl6, v1, hl6, v2, hl6, v3, hl6, v4, v, tl1, q1, im1, h1, hl7, w1, hl7, w2, hl7, w3, hl7, w4, v, tl1, q1, im2, h2, fun _ => hk, fun hn => absurd rfl hn⟩⟩
theorem l_1347 {tl : List (Nat × Nat)} {q : zR} {im : zI} {V : yV} {U : yU} {x3 : Int32} (hI : yInv tl q im V U) (hl : tl.length ≤ 90000) (hv : yYv x3 im) : yYp tl im x3 (fun Z => zX 43 zc_L_law 1347 (yYs x3) [] (zMm tl q im) Z) := by
  have v1 := hv 1 (by decide) (by decide)
  have v2 := hv 2 (by decide) (by decide)
  have hc : yCallA 43 107 223 [.int (im 2000000 (x3 + (1 : Int32)).toNatClampNeg), .int (im 2000000 (x3 + (2 : Int32)).toNatClampNeg)] tl q im := (((k_taken (d := 33) hI.1).ro hI).al)
  obtain ⟨v, tl1, q1, im1, im2, h1, h2, h3, h4, h5⟩ := hc
  have hl6 : tl.length ≤ 1000000 := by omega
  have hl7 : tl1.length ≤ 1000000 := by omega
  obtain ⟨s1, s2⟩ := zEv_scr h1 hl7
  obtain ⟨s3, s4⟩ := zEv_scr h2 hl7
  rw [← s1] at h2
  have w1 := v1; rw [← s2] at w1
  have w2 := v2; rw [← s2] at w2
  exact ⟨tl1, q1, im2, ⟨h3, s3.trans s1, s4.trans s2, h4, h5⟩, fun Z hk => t_L_law_1347 ⟨hl6, v1, hl6, v2, v, tl1, q1, im1, h1, hl7, w1, hl7, w2, v, tl1, q1, im2, h2, fun _ => hk, fun hn => absurd rfl hn⟩⟩
theorem l_body {tl : List (Nat × Nat)} {q : zR} {im : zI} {V : yV} {U : yU} {x3 : Int32} (hI : yInv tl q im V U) (hl : tl.length ≤ 90000) (hv : yYv x3 im) (hv0 : vp_in x3 (im 2000001 0).toNatClampNeg) (hlt : ¬ (im 2000001 0) - (7 : Int32) < x3) : yYp tl im x3 (fun Z => zX 43 zc_L_law 10 (yYs x3) [] (zMm tl q im) Z) := by
  have hl6 : tl.length ≤ 1000000 := by omega
  have e43 : yYp tl im x3 (fun Z => zX 43 zc_L_law 1374 (yYs x3) [] (zMm tl q im) Z) := ⟨tl, q, im, ⟨⟨V, U, hI⟩, rfl, rfl, by omega, by omega⟩, fun Z hk => hk⟩
  have e42 := yYp_br (c := ((im 2000000 (x3).toNatClampNeg) &&& (63 : Int32)) = (42 : Int32)) (l_1347 hI hl hv) e43
  have e41 := yYp_br (c := ((im 2000000 (x3).toNatClampNeg) &&& (63 : Int32)) = (41 : Int32)) (l_1300 hI hl hv) e42
  have e40 := yYp_br (c := ((im 2000000 (x3).toNatClampNeg) &&& (63 : Int32)) = (40 : Int32)) (l_1243 hI hl hv) e41
  have e39 := yYp_br (c := ((im 2000000 (x3).toNatClampNeg) &&& (63 : Int32)) = (39 : Int32)) (l_1206 hI hl hv) e40
  have e38 := yYp_br (c := ((im 2000000 (x3).toNatClampNeg) &&& (63 : Int32)) = (38 : Int32)) (l_1169 hI hl hv) e39
  have e37 := yYp_br (c := ((im 2000000 (x3).toNatClampNeg) &&& (63 : Int32)) = (37 : Int32)) (l_1162 hI hl hv) e38
  have e36 := yYp_br (c := ((im 2000000 (x3).toNatClampNeg) &&& (63 : Int32)) = (36 : Int32)) (l_1155 hI hl hv) e37
  have e35 := yYp_br (c := ((im 2000000 (x3).toNatClampNeg) &&& (63 : Int32)) = (35 : Int32)) (l_1097 hI hl hv) e36
  have e34 := yYp_br (c := ((im 2000000 (x3).toNatClampNeg) &&& (63 : Int32)) = (34 : Int32)) (l_1050 hI hl hv) e35
  have e33 := yYp_br (c := ((im 2000000 (x3).toNatClampNeg) &&& (63 : Int32)) = (33 : Int32)) (l_1013 hI hl hv) e34
  have e32 := yYp_br (c := ((im 2000000 (x3).toNatClampNeg) &&& (63 : Int32)) = (32 : Int32)) (l_986 hI hl hv) e33
  have e31 := yYp_br (c := ((im 2000000 (x3).toNatClampNeg) &&& (63 : Int32)) = (31 : Int32)) (l_939 hI hl hv) e32
  have e30 := yYp_br (c := ((im 2000000 (x3).toNatClampNeg) &&& (63 : Int32)) = (30 : Int32)) (l_922 hI hl hv) e31
  have e29 := yYp_br (c := ((im 2000000 (x3).toNatClampNeg) &&& (63 : Int32)) = (29 : Int32)) (l_895 hI hl hv) e30
  have e28 := yYp_br (c := ((im 2000000 (x3).toNatClampNeg) &&& (63 : Int32)) = (28 : Int32)) (l_858 hI hl hv) e29
  have e27 := yYp_br (c := ((im 2000000 (x3).toNatClampNeg) &&& (63 : Int32)) = (27 : Int32)) (l_841 hI hl hv) e28
  have e26 := yYp_br (c := ((im 2000000 (x3).toNatClampNeg) &&& (63 : Int32)) = (26 : Int32)) (l_804 hI hl hv) e27
  have e25 := yYp_br (c := ((im 2000000 (x3).toNatClampNeg) &&& (63 : Int32)) = (25 : Int32)) (l_757 hI hl hv) e26
  have e24 := yYp_br (c := ((im 2000000 (x3).toNatClampNeg) &&& (63 : Int32)) = (24 : Int32)) (l_720 hI hl hv) e25
  have e23 := yYp_br (c := ((im 2000000 (x3).toNatClampNeg) &&& (63 : Int32)) = (23 : Int32)) (l_683 hI hl hv) e24
  have e22 := yYp_br (c := ((im 2000000 (x3).toNatClampNeg) &&& (63 : Int32)) = (22 : Int32)) (l_646 hI hl hv) e23
  have e21 := yYp_br (c := ((im 2000000 (x3).toNatClampNeg) &&& (63 : Int32)) = (21 : Int32)) (l_619 hI hl hv) e22
  have e20 := yYp_br (c := ((im 2000000 (x3).toNatClampNeg) &&& (63 : Int32)) = (20 : Int32)) (l_602 hI hl hv) e21
  have e19 := yYp_br (c := ((im 2000000 (x3).toNatClampNeg) &&& (63 : Int32)) = (19 : Int32)) (l_585 hI hl hv) e20
  have e18 := yYp_br (c := ((im 2000000 (x3).toNatClampNeg) &&& (63 : Int32)) = (18 : Int32)) (l_548 hI hl hv) e19
  have e17 := yYp_br (c := ((im 2000000 (x3).toNatClampNeg) &&& (63 : Int32)) = (17 : Int32)) (l_521 hI hl hv) e18
  have e16 := yYp_br (c := ((im 2000000 (x3).toNatClampNeg) &&& (63 : Int32)) = (16 : Int32)) (l_494 hI hl hv) e17
  have e15 := yYp_br (c := ((im 2000000 (x3).toNatClampNeg) &&& (63 : Int32)) = (15 : Int32)) (l_467 hI hl hv) e16
  have e14 := yYp_br (c := ((im 2000000 (x3).toNatClampNeg) &&& (63 : Int32)) = (14 : Int32)) (l_440 hI hl hv) e15
  have e13 := yYp_br (c := ((im 2000000 (x3).toNatClampNeg) &&& (63 : Int32)) = (13 : Int32)) (l_413 hI hl hv) e14
  have e12 := yYp_br (c := ((im 2000000 (x3).toNatClampNeg) &&& (63 : Int32)) = (12 : Int32)) (l_376 hI hl hv) e13
  have e11 := yYp_br (c := ((im 2000000 (x3).toNatClampNeg) &&& (63 : Int32)) = (11 : Int32)) (l_349 hI hl hv) e12
  have e10 := yYp_br (c := ((im 2000000 (x3).toNatClampNeg) &&& (63 : Int32)) = (10 : Int32)) (l_302 hI hl hv) e11
  have e9 := yYp_br (c := ((im 2000000 (x3).toNatClampNeg) &&& (63 : Int32)) = (9 : Int32)) (l_245 hI hl hv) e10
  have e8 := yYp_br (c := ((im 2000000 (x3).toNatClampNeg) &&& (63 : Int32)) = (8 : Int32)) (l_228 hI hl hv) e9
  have e7 := yYp_br (c := ((im 2000000 (x3).toNatClampNeg) &&& (63 : Int32)) = (7 : Int32)) (l_221 hI hl hv) e8
  have e6 := yYp_br (c := ((im 2000000 (x3).toNatClampNeg) &&& (63 : Int32)) = (6 : Int32)) (l_154 hI hl hv) e7
  have e5 := yYp_br (c := ((im 2000000 (x3).toNatClampNeg) &&& (63 : Int32)) = (5 : Int32)) (l_137 hI hl hv) e6
  have e4 := yYp_br (c := ((im 2000000 (x3).toNatClampNeg) &&& (63 : Int32)) = (4 : Int32)) (l_110 hI hl hv) e5
  have e3 := yYp_br (c := ((im 2000000 (x3).toNatClampNeg) &&& (63 : Int32)) = (3 : Int32)) (l_73 hI hl hv) e4
  have e2 := yYp_br (c := ((im 2000000 (x3).toNatClampNeg) &&& (63 : Int32)) = (2 : Int32)) (l_66 hI hl hv) e3
  have e1 := yYp_br (c := ((im 2000000 (x3).toNatClampNeg) &&& (63 : Int32)) = (1 : Int32)) (l_49 hI hl hv) e2
  have e0 := yYp_br (c := ((im 2000000 (x3).toNatClampNeg) &&& (63 : Int32)) = (0 : Int32)) (l_22 hI hl hv) e1
  obtain ⟨tl1, q1, im1, h, hz⟩ := e0
  exact ⟨tl1, q1, im1, h, fun Z hk => t_L_law_10 ⟨hl6, fun hh => absurd hh hlt, fun _ => ⟨hl6, hv0, hz Z hk⟩⟩⟩
theorem yY_in {i n : Nat} (h : i < n) (hn : n < 2147483648) : vp_in (Int32.ofNat i) n := zi_in h (by omega)
theorem yY_lt {n i : Nat} (hn : n < 2147483648) (hi : i < 2147483648) : Int32.ofNat n - (7 : Int32) < Int32.ofNat i ↔ n < i + 7 := by
  rw [Int32.lt_iff_toInt_lt, Int32.toInt_sub, Int32.toInt_ofNat_of_lt hn, Int32.toInt_ofNat_of_lt hi]
  show ((n : Int) - 7).bmod (2 ^ 32) < (i : Int) ↔ _
  rw [Int.bmod_eq_of_le (by omega) (by omega)]
  omega
theorem l_loop {n : Nat} (hn : n < 2147483000) : ∀ (k i : Nat) (tl : List (Nat × Nat)) (q : zR) (im : zI), n ≤ i + 7 * k + 6 → i ≤ n → tl.length + 12 * k ≤ 90000 → im 2000001 0 = Int32.ofNat n → yOk tl q im →
    ∃ tl1 q1 im1, zX 43 zc_L_law 10 (yYs (Int32.ofNat i)) [] (zMm tl q im) (fun a b => a = some (.int 1) ∧ b = zMm tl1 q1 im1) ∧ tl1.length ≤ tl.length + 12 * k ∧ zLs tl1 ≤ zLs tl + 200 * k := by
  intro k
  induction k with
  | zero =>
    intro i tl q im h1 h2 h3 h4 h5
    refine ⟨tl, q, im, ?_, by omega, by omega⟩
    have hlt : (im 2000001 0) - (7 : Int32) < Int32.ofNat i := by
      rw [h4]
      exact (yY_lt (by omega) (by omega)).mpr (by omega)
    exact t_L_law_10 ⟨by omega, fun _ => ⟨rfl, rfl⟩, fun hh => absurd hlt hh⟩
  | succ k ih =>
    intro i tl q im h1 h2 h3 h4 h5
    by_cases hlt : (im 2000001 0) - (7 : Int32) < Int32.ofNat i
    · exact ⟨tl, q, im, t_L_law_10 ⟨by omega, fun _ => ⟨rfl, rfl⟩, fun hh => absurd hlt hh⟩, by omega, by omega⟩
    · obtain ⟨V, U, hI⟩ := h5
      have hi : i + 7 ≤ n := by
        rw [h4] at hlt
        have := mt (yY_lt (n := n) (i := i) (by omega) (by omega)).mpr hlt
        omega
      have hcl : (im 2000001 0).toNatClampNeg = n := by
        rw [h4]
        exact Int32.toNatClampNeg_ofNat_of_lt (by omega)
      have hv0 : vp_in (Int32.ofNat i) (im 2000001 0).toNatClampNeg := by
        rw [hcl]
        exact yY_in (by omega) (by omega)
      have hv : yYv (Int32.ofNat i) im := fun j h1 h2 => by
        rw [hcl, ← Int32.ofNat_add]
        exact yY_in (by omega) (by omega)
      obtain ⟨tl1, q1, im1, ⟨g1, g2, g3, g4, g5⟩, hz⟩ := l_body hI (by omega) hv hv0 hlt
      obtain ⟨tl2, q2, im2, r1, r2, r3⟩ := ih (i + 7) tl1 q1 im1 (by omega) (by omega) (by omega) (by rw [g3]; exact h4) g1
      have e7 : Int32.ofNat (i + 7) = Int32.ofNat i + (7 : Int32) := Int32.ofNat_add i 7
      rw [e7] at r1
      exact ⟨tl2, q2, im2, hz _ (t_L_law_1374 r1), by omega, by omega⟩
