/-! texts: tokens and what they give -/
theorem dv_m1 (x : Int32) : x / (-1 : Int32) = -x := Int32.toBitVec_inj.mp (by
  rw [Int32.toBitVec_div, Int32.toBitVec_neg]
  rw [BitVec.sdiv_neg (by decide)]
  exact congrArg (fun y => -y) BitVec.sdiv_one)
theorem rm_m1 (x : Int32) : x - x / (-1 : Int32) * (-1 : Int32) = 0 := by
  rw [dv_m1, Int32.mul_neg, Int32.mul_one, Int32.neg_neg, Int32.sub_self]
def nmB (k : Nat) : Nat := ([109, 119, 115, 110, 99, 104, 108] : List Nat).getD k 0
def sgs : List Nat := [37, 38, 42, 43, 45, 47, 60, 61, 62, 124]
def jn (b : Nat) (x y : Int32) : Int32 := match b with
  | 37 => if y = 0 then 0 else x - x / y * y
  | 38 => if x = 0 then 0 else if y = 0 then 0 else 1
  | 42 => x * y
  | 43 => x + y
  | 45 => x - y
  | 47 => if y = 0 then 0 else x / y
  | 60 => if y ≤ x then 0 else 1
  | 61 => if x = y then 1 else 0
  | 62 => if x ≤ y then 0 else 1
  | 124 => if x = 0 then (if y = 0 then 0 else 1) else 1
  | _ => 0
theorem jn_37 (x y : Int32) : jn 37 x y = (if y = 0 then 0 else x - x / y * y) := rfl
theorem jn_38 (x y : Int32) : jn 38 x y = (if x = 0 then 0 else if y = 0 then 0 else 1) := rfl
theorem jn_42 (x y : Int32) : jn 42 x y = (x * y) := rfl
theorem jn_43 (x y : Int32) : jn 43 x y = (x + y) := rfl
theorem jn_45 (x y : Int32) : jn 45 x y = (x - y) := rfl
theorem jn_47 (x y : Int32) : jn 47 x y = (if y = 0 then 0 else x / y) := rfl
theorem jn_60 (x y : Int32) : jn 60 x y = (if y ≤ x then 0 else 1) := rfl
theorem jn_61 (x y : Int32) : jn 61 x y = (if x = y then 1 else 0) := rfl
theorem jn_62 (x y : Int32) : jn 62 x y = (if x ≤ y then 0 else 1) := rfl
theorem jn_124 (x y : Int32) : jn 124 x y = (if x = 0 then (if y = 0 then 0 else 1) else 1) := rfl
theorem jn_C {b : Nat} (hb : b ∈ sgs) (x y : Int32) : fX3_joined (nI b) x y = some (jn b x y) := by
  have h : b = 37 ∨ b = 38 ∨ b = 42 ∨ b = 43 ∨ b = 45 ∨ b = 47 ∨ b = 60 ∨ b = 61 ∨ b = 62 ∨ b = 124 := by simpa [sgs] using hb
  rcases h with rfl | rfl | rfl | rfl | rfl | rfl | rfl | rfl | rfl | rfl
  · unfold fX3_joined
    rw [if_neg (show ¬ nI 37 = (38 : Int32) by decide), if_neg (show ¬ nI 37 = (42 : Int32) by decide), if_neg (show ¬ nI 37 = (43 : Int32) by decide), if_neg (show ¬ nI 37 = (45 : Int32) by decide), if_neg (show ¬ nI 37 = (47 : Int32) by decide), if_neg (show ¬ nI 37 = (60 : Int32) by decide), if_neg (show ¬ nI 37 = (61 : Int32) by decide), if_neg (show ¬ nI 37 = (62 : Int32) by decide), if_neg (show ¬ nI 37 = (124 : Int32) by decide), jn_37]
    by_cases h1 : y = 0
    · rw [if_pos h1, if_pos h1]
    · rw [if_neg h1, if_neg h1]
      unfold nzI; rw [if_neg h1]
  · unfold fX3_joined
    rw [if_pos (show nI 38 = (38 : Int32) from rfl), jn_38]
    by_cases h1 : x = 0
    · rw [if_pos h1, if_pos h1]
    · rw [if_neg h1, if_neg h1]
      by_cases h2 : y = 0
      · rw [if_pos h2, if_pos h2]
      · rw [if_neg h2, if_neg h2]
  · unfold fX3_joined
    rw [if_neg (show ¬ nI 42 = (38 : Int32) by decide), if_pos (show nI 42 = (42 : Int32) from rfl), jn_42]
  · unfold fX3_joined
    rw [if_neg (show ¬ nI 43 = (38 : Int32) by decide), if_neg (show ¬ nI 43 = (42 : Int32) by decide), if_pos (show nI 43 = (43 : Int32) from rfl), jn_43]
  · unfold fX3_joined
    rw [if_neg (show ¬ nI 45 = (38 : Int32) by decide), if_neg (show ¬ nI 45 = (42 : Int32) by decide), if_neg (show ¬ nI 45 = (43 : Int32) by decide), if_pos (show nI 45 = (45 : Int32) from rfl), jn_45]
  · unfold fX3_joined
    rw [if_neg (show ¬ nI 47 = (38 : Int32) by decide), if_neg (show ¬ nI 47 = (42 : Int32) by decide), if_neg (show ¬ nI 47 = (43 : Int32) by decide), if_neg (show ¬ nI 47 = (45 : Int32) by decide), if_pos (show nI 47 = (47 : Int32) from rfl), jn_47]
    by_cases h1 : y = 0
    · rw [if_pos h1, if_pos h1]
    · rw [if_neg h1, if_neg h1]
      unfold nzI; rw [if_neg h1]
  · unfold fX3_joined
    rw [if_neg (show ¬ nI 60 = (38 : Int32) by decide), if_neg (show ¬ nI 60 = (42 : Int32) by decide), if_neg (show ¬ nI 60 = (43 : Int32) by decide), if_neg (show ¬ nI 60 = (45 : Int32) by decide), if_neg (show ¬ nI 60 = (47 : Int32) by decide), if_pos (show nI 60 = (60 : Int32) from rfl), jn_60]
    by_cases h1 : y ≤ x
    · rw [if_pos h1, if_pos h1]
    · rw [if_neg h1, if_neg h1]
  · unfold fX3_joined
    rw [if_neg (show ¬ nI 61 = (38 : Int32) by decide), if_neg (show ¬ nI 61 = (42 : Int32) by decide), if_neg (show ¬ nI 61 = (43 : Int32) by decide), if_neg (show ¬ nI 61 = (45 : Int32) by decide), if_neg (show ¬ nI 61 = (47 : Int32) by decide), if_neg (show ¬ nI 61 = (60 : Int32) by decide), if_pos (show nI 61 = (61 : Int32) from rfl), jn_61]
    by_cases h1 : x = y
    · rw [if_pos h1, if_pos h1]
    · rw [if_neg h1, if_neg h1]
  · unfold fX3_joined
    rw [if_neg (show ¬ nI 62 = (38 : Int32) by decide), if_neg (show ¬ nI 62 = (42 : Int32) by decide), if_neg (show ¬ nI 62 = (43 : Int32) by decide), if_neg (show ¬ nI 62 = (45 : Int32) by decide), if_neg (show ¬ nI 62 = (47 : Int32) by decide), if_neg (show ¬ nI 62 = (60 : Int32) by decide), if_neg (show ¬ nI 62 = (61 : Int32) by decide), if_pos (show nI 62 = (62 : Int32) from rfl), jn_62]
    by_cases h1 : x ≤ y
    · rw [if_pos h1, if_pos h1]
    · rw [if_neg h1, if_neg h1]
  · unfold fX3_joined
    rw [if_neg (show ¬ nI 124 = (38 : Int32) by decide), if_neg (show ¬ nI 124 = (42 : Int32) by decide), if_neg (show ¬ nI 124 = (43 : Int32) by decide), if_neg (show ¬ nI 124 = (45 : Int32) by decide), if_neg (show ¬ nI 124 = (47 : Int32) by decide), if_neg (show ¬ nI 124 = (60 : Int32) by decide), if_neg (show ¬ nI 124 = (61 : Int32) by decide), if_neg (show ¬ nI 124 = (62 : Int32) by decide), if_pos (show nI 124 = (124 : Int32) from rfl), jn_124]
    by_cases h1 : x = 0
    · rw [if_pos h1, if_pos h1]
      by_cases h2 : y = 0
      · rw [if_pos h2, if_pos h2]
      · rw [if_neg h2, if_neg h2]
    · rw [if_neg h1, if_neg h1]
theorem jn_M {b : Nat} (hb : b ∈ sgs) (x y : Int32) : fX12_twoOf (nI b) x y = some (jn b x y) := by
  have h : b = 37 ∨ b = 38 ∨ b = 42 ∨ b = 43 ∨ b = 45 ∨ b = 47 ∨ b = 60 ∨ b = 61 ∨ b = 62 ∨ b = 124 := by simpa [sgs] using hb
  rcases h with rfl | rfl | rfl | rfl | rfl | rfl | rfl | rfl | rfl | rfl
  · unfold fX12_twoOf
    rw [if_pos (show nI 37 = (37 : Int32) from rfl), jn_37]
    by_cases h1 : y = 0
    · rw [if_pos h1, if_pos h1]
    · rw [if_neg h1, if_neg h1]
      by_cases h2 : y = -1
      · rw [if_pos h2, h2, rm_m1]
      · rw [if_neg h2]; unfold nzI; rw [if_neg h1]
  · unfold fX12_twoOf
    rw [if_neg (show ¬ nI 38 = (37 : Int32) by decide), if_pos (show nI 38 = (38 : Int32) from rfl), jn_38]
    by_cases h1 : x = 0
    · rw [if_pos h1, if_pos h1]
    · rw [if_neg h1, if_neg h1]
      by_cases h2 : y = 0
      · rw [if_pos h2, if_pos h2]
      · rw [if_neg h2, if_neg h2]
  · unfold fX12_twoOf
    rw [if_neg (show ¬ nI 42 = (37 : Int32) by decide), if_neg (show ¬ nI 42 = (38 : Int32) by decide), if_neg (show ¬ nI 42 = (39 : Int32) by decide), if_neg (show ¬ nI 42 = (40 : Int32) by decide), if_neg (show ¬ nI 42 = (41 : Int32) by decide), if_pos (show nI 42 = (42 : Int32) from rfl), jn_42]
  · unfold fX12_twoOf
    rw [if_neg (show ¬ nI 43 = (37 : Int32) by decide), if_neg (show ¬ nI 43 = (38 : Int32) by decide), if_neg (show ¬ nI 43 = (39 : Int32) by decide), if_neg (show ¬ nI 43 = (40 : Int32) by decide), if_neg (show ¬ nI 43 = (41 : Int32) by decide), if_neg (show ¬ nI 43 = (42 : Int32) by decide), if_pos (show nI 43 = (43 : Int32) from rfl), jn_43]
  · unfold fX12_twoOf
    rw [if_neg (show ¬ nI 45 = (37 : Int32) by decide), if_neg (show ¬ nI 45 = (38 : Int32) by decide), if_neg (show ¬ nI 45 = (39 : Int32) by decide), if_neg (show ¬ nI 45 = (40 : Int32) by decide), if_neg (show ¬ nI 45 = (41 : Int32) by decide), if_neg (show ¬ nI 45 = (42 : Int32) by decide), if_neg (show ¬ nI 45 = (43 : Int32) by decide), if_neg (show ¬ nI 45 = (44 : Int32) by decide), if_pos (show nI 45 = (45 : Int32) from rfl), jn_45]
  · unfold fX12_twoOf
    rw [if_neg (show ¬ nI 47 = (37 : Int32) by decide), if_neg (show ¬ nI 47 = (38 : Int32) by decide), if_neg (show ¬ nI 47 = (39 : Int32) by decide), if_neg (show ¬ nI 47 = (40 : Int32) by decide), if_neg (show ¬ nI 47 = (41 : Int32) by decide), if_neg (show ¬ nI 47 = (42 : Int32) by decide), if_neg (show ¬ nI 47 = (43 : Int32) by decide), if_neg (show ¬ nI 47 = (44 : Int32) by decide), if_neg (show ¬ nI 47 = (45 : Int32) by decide), if_neg (show ¬ nI 47 = (46 : Int32) by decide), if_pos (show nI 47 = (47 : Int32) from rfl), jn_47]
    by_cases h1 : y = 0
    · rw [if_pos h1, if_pos h1]
    · rw [if_neg h1, if_neg h1]
      by_cases h2 : y = -1
      · rw [if_pos h2, h2, dv_m1]
      · rw [if_neg h2]; unfold nzI; rw [if_neg h1]
  · unfold fX12_twoOf
    rw [if_neg (show ¬ nI 60 = (37 : Int32) by decide), if_neg (show ¬ nI 60 = (38 : Int32) by decide), if_neg (show ¬ nI 60 = (39 : Int32) by decide), if_neg (show ¬ nI 60 = (40 : Int32) by decide), if_neg (show ¬ nI 60 = (41 : Int32) by decide), if_neg (show ¬ nI 60 = (42 : Int32) by decide), if_neg (show ¬ nI 60 = (43 : Int32) by decide), if_neg (show ¬ nI 60 = (44 : Int32) by decide), if_neg (show ¬ nI 60 = (45 : Int32) by decide), if_neg (show ¬ nI 60 = (46 : Int32) by decide), if_neg (show ¬ nI 60 = (47 : Int32) by decide), if_neg (show ¬ nI 60 = (48 : Int32) by decide), if_neg (show ¬ nI 60 = (49 : Int32) by decide), if_neg (show ¬ nI 60 = (50 : Int32) by decide), if_neg (show ¬ nI 60 = (51 : Int32) by decide), if_neg (show ¬ nI 60 = (52 : Int32) by decide), if_neg (show ¬ nI 60 = (53 : Int32) by decide), if_neg (show ¬ nI 60 = (54 : Int32) by decide), if_neg (show ¬ nI 60 = (55 : Int32) by decide), if_neg (show ¬ nI 60 = (56 : Int32) by decide), if_neg (show ¬ nI 60 = (57 : Int32) by decide), if_neg (show ¬ nI 60 = (58 : Int32) by decide), if_neg (show ¬ nI 60 = (59 : Int32) by decide), if_pos (show nI 60 = (60 : Int32) from rfl), jn_60]
    by_cases h1 : y ≤ x
    · rw [if_pos h1, if_pos h1]
    · rw [if_neg h1, if_neg h1]
  · unfold fX12_twoOf
    rw [if_neg (show ¬ nI 61 = (37 : Int32) by decide), if_neg (show ¬ nI 61 = (38 : Int32) by decide), if_neg (show ¬ nI 61 = (39 : Int32) by decide), if_neg (show ¬ nI 61 = (40 : Int32) by decide), if_neg (show ¬ nI 61 = (41 : Int32) by decide), if_neg (show ¬ nI 61 = (42 : Int32) by decide), if_neg (show ¬ nI 61 = (43 : Int32) by decide), if_neg (show ¬ nI 61 = (44 : Int32) by decide), if_neg (show ¬ nI 61 = (45 : Int32) by decide), if_neg (show ¬ nI 61 = (46 : Int32) by decide), if_neg (show ¬ nI 61 = (47 : Int32) by decide), if_neg (show ¬ nI 61 = (48 : Int32) by decide), if_neg (show ¬ nI 61 = (49 : Int32) by decide), if_neg (show ¬ nI 61 = (50 : Int32) by decide), if_neg (show ¬ nI 61 = (51 : Int32) by decide), if_neg (show ¬ nI 61 = (52 : Int32) by decide), if_neg (show ¬ nI 61 = (53 : Int32) by decide), if_neg (show ¬ nI 61 = (54 : Int32) by decide), if_neg (show ¬ nI 61 = (55 : Int32) by decide), if_neg (show ¬ nI 61 = (56 : Int32) by decide), if_neg (show ¬ nI 61 = (57 : Int32) by decide), if_neg (show ¬ nI 61 = (58 : Int32) by decide), if_neg (show ¬ nI 61 = (59 : Int32) by decide), if_neg (show ¬ nI 61 = (60 : Int32) by decide), if_pos (show nI 61 = (61 : Int32) from rfl), jn_61]
    by_cases h1 : x = y
    · rw [if_pos h1, if_pos h1]
    · rw [if_neg h1, if_neg h1]
  · unfold fX12_twoOf
    rw [if_neg (show ¬ nI 62 = (37 : Int32) by decide), if_neg (show ¬ nI 62 = (38 : Int32) by decide), if_neg (show ¬ nI 62 = (39 : Int32) by decide), if_neg (show ¬ nI 62 = (40 : Int32) by decide), if_neg (show ¬ nI 62 = (41 : Int32) by decide), if_neg (show ¬ nI 62 = (42 : Int32) by decide), if_neg (show ¬ nI 62 = (43 : Int32) by decide), if_neg (show ¬ nI 62 = (44 : Int32) by decide), if_neg (show ¬ nI 62 = (45 : Int32) by decide), if_neg (show ¬ nI 62 = (46 : Int32) by decide), if_neg (show ¬ nI 62 = (47 : Int32) by decide), if_neg (show ¬ nI 62 = (48 : Int32) by decide), if_neg (show ¬ nI 62 = (49 : Int32) by decide), if_neg (show ¬ nI 62 = (50 : Int32) by decide), if_neg (show ¬ nI 62 = (51 : Int32) by decide), if_neg (show ¬ nI 62 = (52 : Int32) by decide), if_neg (show ¬ nI 62 = (53 : Int32) by decide), if_neg (show ¬ nI 62 = (54 : Int32) by decide), if_neg (show ¬ nI 62 = (55 : Int32) by decide), if_neg (show ¬ nI 62 = (56 : Int32) by decide), if_neg (show ¬ nI 62 = (57 : Int32) by decide), if_neg (show ¬ nI 62 = (58 : Int32) by decide), if_neg (show ¬ nI 62 = (59 : Int32) by decide), if_neg (show ¬ nI 62 = (60 : Int32) by decide), if_neg (show ¬ nI 62 = (61 : Int32) by decide), if_pos (show nI 62 = (62 : Int32) from rfl), jn_62]
    by_cases h1 : x ≤ y
    · rw [if_pos h1, if_pos h1]
    · rw [if_neg h1, if_neg h1]
  · unfold fX12_twoOf
    rw [if_neg (show ¬ nI 124 = (37 : Int32) by decide), if_neg (show ¬ nI 124 = (38 : Int32) by decide), if_neg (show ¬ nI 124 = (39 : Int32) by decide), if_neg (show ¬ nI 124 = (40 : Int32) by decide), if_neg (show ¬ nI 124 = (41 : Int32) by decide), if_neg (show ¬ nI 124 = (42 : Int32) by decide), if_neg (show ¬ nI 124 = (43 : Int32) by decide), if_neg (show ¬ nI 124 = (44 : Int32) by decide), if_neg (show ¬ nI 124 = (45 : Int32) by decide), if_neg (show ¬ nI 124 = (46 : Int32) by decide), if_neg (show ¬ nI 124 = (47 : Int32) by decide), if_neg (show ¬ nI 124 = (48 : Int32) by decide), if_neg (show ¬ nI 124 = (49 : Int32) by decide), if_neg (show ¬ nI 124 = (50 : Int32) by decide), if_neg (show ¬ nI 124 = (51 : Int32) by decide), if_neg (show ¬ nI 124 = (52 : Int32) by decide), if_neg (show ¬ nI 124 = (53 : Int32) by decide), if_neg (show ¬ nI 124 = (54 : Int32) by decide), if_neg (show ¬ nI 124 = (55 : Int32) by decide), if_neg (show ¬ nI 124 = (56 : Int32) by decide), if_neg (show ¬ nI 124 = (57 : Int32) by decide), if_neg (show ¬ nI 124 = (58 : Int32) by decide), if_neg (show ¬ nI 124 = (59 : Int32) by decide), if_neg (show ¬ nI 124 = (60 : Int32) by decide), if_neg (show ¬ nI 124 = (61 : Int32) by decide), if_neg (show ¬ nI 124 = (62 : Int32) by decide), jn_124]
    by_cases h1 : x = 0
    · rw [if_pos h1, if_pos h1]
      by_cases h2 : y = 0
      · rw [if_pos h2, if_pos h2]
      · rw [if_neg h2, if_neg h2]
    · rw [if_neg h1, if_neg h1]
/-- a token: (0, n) a number, (1, k) a name, (2, 0) not, (3, 0) less, (4, b) a sign between two; (5, 0) what ends a test, (6, 0) what ends a line: as the component's item, and as the reference's act and what is with it -/
def cI (x : Nat × Nat) : Int32 := match x.1 with
  | 0 => nI x.2
  | 1 => -nI (nmB x.2)
  | 2 => -33
  | 3 => -126
  | 4 => -nI x.2
  | 5 => -63
  | _ => -59
def xM (x : Nat × Nat) : Int32 := match x.1 with
  | 0 => 1
  | 1 => 2
  | 2 => 3
  | 3 => 4
  | _ => nI x.2
def yM (x : Nat × Nat) : Int32 := match x.1 with
  | 0 => nI x.2
  | 1 => nI x.2
  | _ => 0
def ev1 (fa : Nat → Int32) (x : Nat × Nat) (s : List Int32) : Option (List Int32) := match x.1, s with
  | 0, s => if x.2 < 10000 then some (nI x.2 :: s) else none
  | 1, s => if x.2 < 7 then some (fa x.2 :: s) else none
  | 2, a :: s => some ((if a = 0 then 1 else 0) :: s)
  | 3, a :: s => some (-a :: s)
  | 4, b :: a :: s => if x.2 ∈ sgs then some (jn x.2 a b :: s) else none
  | _, _ => none
def evL (fa : Nat → Int32) (lim : Nat) : List (Nat × Nat) → List Int32 → Option (List Int32)
  | [], s => some s
  | x :: l, s => match ev1 fa x s with
    | none => none
    | some s' => if s'.length ≤ lim then evL fa lim l s' else none
theorem evL_cons {fa : Nat → Int32} {lim : Nat} {x : Nat × Nat} {l : List (Nat × Nat)} {s s' : List Int32} (h : evL fa lim (x :: l) s = some s') : ∃ s1, ev1 fa x s = some s1 ∧ s1.length ≤ lim ∧ evL fa lim l s1 = some s' := by
  unfold evL at h
  cases e : ev1 fa x s with
  | none => rw [e] at h; cases h
  | some s1 =>
    rw [e] at h
    by_cases hl : s1.length ≤ lim
    · exact ⟨s1, rfl, hl, by simpa [hl] using h⟩
    · simp [hl] at h
theorem evL_1 {fa : Nat → Int32} {lim : Nat} {x : Nat × Nat} {s s' : List Int32} (h : ev1 fa x s = some s') (hl : s'.length ≤ lim) : evL fa lim [x] s = some s' := by
  unfold evL
  rw [h]
  simp [hl, evL]
theorem evL_s {fa : Nat → Int32} {lim : Nat} {x : Nat × Nat} {l : List (Nat × Nat)} {s s1 : List Int32} (h : ev1 fa x s = some s1) (hl : s1.length ≤ lim) : evL fa lim (x :: l) s = evL fa lim l s1 := by
  rw [evL, h]
  simp only [hl, if_true]
theorem evL_app {fa : Nat → Int32} {lim : Nat} : ∀ {a b : List (Nat × Nat)} {s s' : List Int32}, evL fa lim a s = some s' → evL fa lim (a ++ b) s = evL fa lim b s'
  | [], b, s, s', h => by
    cases h
    rfl
  | x :: a, b, s, s', h => by
    obtain ⟨s1, h1, h2, h3⟩ := evL_cons h
    show evL fa lim (x :: (a ++ b)) s = _
    rw [evL_s h1 h2]
    exact evL_app h3
def WF (l : List (Nat × Nat)) (d : Nat) : Prop := ∀ (fa : Nat → Int32) (lim : Nat) (s : List Int32), s.length + d ≤ lim → ∃ v, evL fa lim l s = some (v :: s)
theorem WF.mono {l : List (Nat × Nat)} {d e : Nat} (h : WF l d) (hd : d ≤ e) : WF l e := fun fa lim s hs => h fa lim s (by omega)
theorem WF.num {n : Nat} (hn : n < 10000) : WF [(0, n)] 1 := fun fa lim s hs => ⟨nI n, evL_1 (by simp [ev1, hn]) (by simpa using hs)⟩
theorem WF.nam {k : Nat} (hk : k < 7) : WF [(1, k)] 1 := fun fa lim s hs => ⟨fa k, evL_1 (by simp [ev1, hk]) (by simpa using hs)⟩
theorem WF.un {l : List (Nat × Nat)} {d c : Nat} (h : WF l d) (hd : 1 ≤ d) (hc : c = 2 ∨ c = 3) : WF (l ++ [(c, 0)]) d := fun fa lim s hs => by
  obtain ⟨v, hv⟩ := h fa lim s hs
  rw [evL_app hv]
  rcases hc with rfl | rfl
  · exact ⟨if v = 0 then 1 else 0, evL_1 rfl (by simp; omega)⟩
  · exact ⟨-v, evL_1 rfl (by simp; omega)⟩
theorem WF.bin {l k : List (Nat × Nat)} {d e f c : Nat} (h : WF l d) (g : WF k e) (hd : 1 ≤ d) (hf : d ≤ f) (he : e + 1 ≤ f) (hc : c ∈ sgs) : WF (l ++ (k ++ [(4, c)])) f := fun fa lim s hs => by
  obtain ⟨v, hv⟩ := h fa lim s (by omega)
  rw [evL_app hv]
  obtain ⟨w, hw⟩ := g fa lim (v :: s) (by simp; omega)
  rw [evL_app hw]
  exact ⟨jn c v w, evL_1 (by simp [ev1, hc]) (by simp; omega)⟩
theorem WF.ne {l : List (Nat × Nat)} {d : Nat} (h : WF l d) : l ≠ [] := fun e => by
  subst e
  obtain ⟨v, hv⟩ := h (fun _ => 0) d [] (by simp)
  cases hv
theorem WF.pos {l : List (Nat × Nat)} {d : Nat} (h : WF l d) : 0 < l.length := List.length_pos_iff.mpr h.ne
/-- a stack in a row: its lowest at 0 -/
def stk (f : Nat → Int32) : List Int32 → Prop
  | [] => True
  | v :: s => f s.length = v ∧ stk f s
theorem stk.cong {f g : Nat → Int32} : ∀ {s : List Int32}, stk f s → (∀ j, j < s.length → g j = f j) → stk g s
  | [], _, _ => trivial
  | v :: s, h, e => ⟨(e s.length (by simp)).trans h.1, stk.cong h.2 (fun j hj => e j (by simp; omega))⟩
def itm (f : Nat → Int32) : Nat → List (Nat × Nat) → Prop
  | _, [] => True
  | i, x :: l => f i = cI x ∧ itm f (i + 1) l
def acm (f g : Nat → Int32) : Nat → List (Nat × Nat) → Prop
  | _, [] => True
  | i, x :: l => f i = xM x ∧ g i = yM x ∧ acm f g (i + 1) l
theorem itm_app {f : Nat → Int32} : ∀ {i : Nat} {a b : List (Nat × Nat)}, itm f i (a ++ b) ↔ itm f i a ∧ itm f (i + a.length) b
  | i, [], b => by simp [itm]
  | i, x :: a, b => by
    show f i = cI x ∧ itm f (i + 1) (a ++ b) ↔ (f i = cI x ∧ itm f (i + 1) a) ∧ _
    rw [itm_app, and_assoc]
    simp only [List.length_cons, Nat.add_assoc, Nat.add_comm 1]
theorem acm_app {f g : Nat → Int32} : ∀ {i : Nat} {a b : List (Nat × Nat)}, acm f g i (a ++ b) ↔ acm f g i a ∧ acm f g (i + a.length) b
  | i, [], b => by simp [acm]
  | i, x :: a, b => by
    show f i = xM x ∧ g i = yM x ∧ acm f g (i + 1) (a ++ b) ↔ (f i = xM x ∧ g i = yM x ∧ acm f g (i + 1) a) ∧ _
    rw [acm_app]
    simp only [List.length_cons, Nat.add_assoc, Nat.add_comm 1, and_assoc]
theorem itm.cong {f f' : Nat → Int32} : ∀ {i i' : Nat} {l : List (Nat × Nat)}, itm f i l → (∀ j, j < l.length → f' (i' + j) = f (i + j)) → itm f' i' l
  | _, _, [], _, _ => trivial
  | i, i', x :: l, h, e => ⟨(e 0 (by simp)).trans h.1, itm.cong h.2 (fun j hj => by
      have := e (1 + j) (by simp; omega)
      simpa [Nat.add_assoc] using this)⟩
theorem acm.cong {f f' g g' : Nat → Int32} : ∀ {i i' : Nat} {l : List (Nat × Nat)}, acm f g i l → (∀ j, j < l.length → f' (i' + j) = f (i + j) ∧ g' (i' + j) = g (i + j)) → acm f' g' i' l
  | _, _, [], _, _ => trivial
  | i, i', x :: l, h, e => ⟨(e 0 (by simp)).1.trans h.1, (e 0 (by simp)).2.trans h.2.1, acm.cong h.2.2 (fun j hj => by
      have := e (1 + j) (by simp; omega)
      simpa [Nat.add_assoc] using this)⟩
/-! where a sign stands in a text of signs -/
def M00 : Mem := (fun _ _ _ => 0, fun _ _ _ => 0, fun _ _ _ => none)
theorem io_M (th : Nat) (x : Int32) (M : Mem) : fJ0_indexOf_0f7a4 th x M = fJ0_indexOf_0f7a4 th x M00 := rfl
theorem io_n : ∀ k, k < 7 → fJ0_indexOf_0f7a4 11 (((-(-nI (nmB k))).toUInt32 % 65536).toInt32) M00 = some (nI k) := by decide +kernel
theorem io_s : ∀ b, b ∈ 33 :: 126 :: sgs → fJ0_indexOf_0f7a4 11 (((-(-nI b)).toUInt32 % 65536).toInt32) M00 = some (-1) := by decide +kernel
theorem cI_n : ∀ k, k < 7 → ¬ (0 : Int32) ≤ -nI (nmB k) ∧ -nI (nmB k) < 0 ∧ ¬ -nI (nmB k) = -59 ∧ ¬ -nI (nmB k) = -63 := by decide +kernel
theorem cI_s : ∀ b, b ∈ sgs → ¬ (0 : Int32) ≤ -nI b ∧ -nI b < 0 ∧ ¬ -nI b = -59 ∧ ¬ -nI b = -63 ∧ ¬ -nI b = -126 ∧ ¬ -nI b = -33 ∧ -(-nI b) = nI b ∧ ¬ nI b = 1 ∧ ¬ nI b = 2 ∧ ¬ nI b = 3 ∧ ¬ nI b = 4 := by decide +kernel
/-! the component's stack -/
def StC (C : Mem) (s : List Int32) : Prop := mgI C 307 0 0 = nI s.length ∧ stk (mgI C 3100 0) s
theorem push_q {C : Mem} {s : List Int32} (h : StC C s) (v : Int32) (hs : (v :: s).length ≤ 64) : ∃ C', fX3_push v C = some ((), C') ∧ StC C' (v :: s) ∧ EqOff [307, 3100] C C' := by
  have hs' : s.length < 64 := hs
  unfold fX3_push
  rw [h.1, if_neg (show ¬ (64 : Int32) ≤ nI s.length from nI_ge (b := 64) hs' (by decide)), ix_n hs' (by omega)]
  simp only [nm_u, uI_I, uL_L, uR_R, uI_L, uI_R, uL_I, uL_R, uR_I, uR_L, Nat.reduceEqDiff, false_and, and_false, true_and, and_true, ↓reduceIte, h.1, nI_clamp (show s.length < 2 ^ 31 by omega), nI_1]
  refine ⟨_, rfl, ⟨by simp only [uI_I, uL_L, uR_R, uI_L, uI_R, uL_I, uL_R, uR_I, uR_L, Nat.reduceEqDiff, false_and, and_false, true_and, and_true, ↓reduceIte]; rfl, ?_, ?_⟩, (EqOff.refl.I rfl).I rfl⟩
  · simp only [uI_I, uL_L, uR_R, uI_L, uI_R, uL_I, uL_R, uR_I, uR_L, Nat.reduceEqDiff, false_and, and_false, true_and, and_true, ↓reduceIte]
  · refine h.2.cong (fun j hj => ?_)
    simp only [uI_I, uL_L, uR_R, uI_L, uI_R, uL_I, uL_R, uR_I, uR_L, Nat.reduceEqDiff, false_and, and_false, true_and, and_true, ↓reduceIte]
    rw [if_neg (by omega)]
theorem pull_q {C : Mem} {s : List Int32} {v : Int32} (h : StC C (v :: s)) (hs : (v :: s).length ≤ 64) : ∃ C', fX3_pull C = some (v, C') ∧ StC C' s ∧ EqOff [307, 3100] C C' := by
  have hs' : s.length < 64 := hs
  have h1 : mgI C 307 0 0 = nI (s.length + 1) := h.1
  unfold fX3_pull
  rw [h1, if_pos (show (0 : Int32) < nI (s.length + 1) from nI_lt (a := 0) (by omega) (by omega)), show nI (s.length + 1) - (1 : Int32) = nI s.length from nI_pred _]
  simp only [nm_u, uI_I, uL_L, uR_R, uI_L, uI_R, uL_I, uL_R, uR_I, uR_L, Nat.reduceEqDiff, false_and, and_false, true_and, and_true, ↓reduceIte, nI_clamp (show s.length < 2 ^ 31 by omega), ix_n hs' (show 64 < 2 ^ 31 by omega)]
  rw [h.2.1]
  refine ⟨_, rfl, ⟨by simp only [uI_I, uL_L, uR_R, uI_L, uI_R, uL_I, uL_R, uR_I, uR_L, Nat.reduceEqDiff, false_and, and_false, true_and, and_true, ↓reduceIte], h.2.2.cong (fun j hj => ?_)⟩, EqOff.refl.I rfl⟩
  simp only [uI_I, uL_L, uR_R, uI_L, uI_R, uL_I, uL_R, uR_I, uR_L, Nat.reduceEqDiff, false_and, and_false, true_and, and_true, ↓reduceIte]
/-- one token: the component's step -/
theorem step_q {C : Mem} {s s' : List Int32} {x : Nat × Nat} {fa : Nat → Int32} (h : StC C s) (hs : s.length ≤ 64) (hf : ∀ k, k < 7 → mgI C 3000 0 k = fa k) (he : ev1 fa x s = some s') (hl : s'.length ≤ 64) : ¬ cI x = -59 ∧ ¬ cI x = -63 ∧ ∃ C', fX3_step (cI x) C = some ((), C') ∧ StC C' s' ∧ EqOff [307, 3100] C C' := by
  obtain ⟨c, a⟩ := x
  rcases Nat.lt_or_ge c 5 with hc | hc
  · have hc5 : c = 0 ∨ c = 1 ∨ c = 2 ∨ c = 3 ∨ c = 4 := by omega
    rcases hc5 with rfl | rfl | rfl | rfl | rfl
    · simp only [ev1] at he
      by_cases ha : a < 10000
      · rw [if_pos ha] at he
        cases he
        have h0 : ∀ z : Nat, 0 < z → z < 2 ^ 31 → ¬ nI a = -nI z := fun z hz hz2 e => by
          have e2 := congrArg Int32.toInt e
          rw [nI_toInt (by omega), Int32.toInt_neg, nI_toInt hz2, Int.bmod_eq_of_le (by omega) (by omega)] at e2
          omega
        refine ⟨h0 59 (by omega) (by omega), h0 63 (by omega) (by omega), ?_⟩
        obtain ⟨C', g1, g2, g3⟩ := push_q h (nI a) hl
        refine ⟨C', ?_, g2, g3⟩
        show fX3_step (nI a) C = _
        unfold fX3_step
        rw [if_pos (nI_pos' (by omega)), if_neg (nI_pos (by omega)), g1]
        rfl
      · rw [if_neg ha] at he
        cases he
    · simp only [ev1] at he
      by_cases ha : a < 7
      · rw [if_pos ha] at he
        cases he
        obtain ⟨q1, q2, q3, q4⟩ := cI_n a ha
        refine ⟨q3, q4, ?_⟩
        obtain ⟨C', g1, g2, g3⟩ := push_q h (fa a) hl
        refine ⟨C', ?_, g2, g3⟩
        show fX3_step (-nI (nmB a)) C = _
        unfold fX3_step
        rw [if_neg q1, io_M, io_n a ha, bd_u, if_pos q2, if_neg (nI_pos (by omega)), ix_n ha (by omega), nI_clamp (by omega), hf a ha, g1]
        rfl
      · rw [if_neg ha] at he
        cases he
    · cases s with
      | nil => cases he
      | cons v s =>
        simp only [ev1] at he
        cases he
        refine ⟨(show ¬ (-33 : Int32) = -59 by decide), (show ¬ (-33 : Int32) = -63 by decide), ?_⟩
        obtain ⟨C1, g1, g2, g3⟩ := pull_q h hs
        obtain ⟨C2, k1, k2, k3⟩ := push_q g2 (if v = 0 then 1 else 0) hl
        refine ⟨C2, ?_, k2, g3.trans k3⟩
        show fX3_step (-33) C = _
        unfold fX3_step
        rw [if_neg (show ¬ (0 : Int32) ≤ -33 by decide), io_M, show fJ0_indexOf_0f7a4 11 (((-(-33 : Int32)).toUInt32 % 65536).toInt32) M00 = some (-1) from io_s 33 (by decide), bd_u, if_pos (show (-33 : Int32) < 0 by decide), if_pos (show (-1 : Int32) < 0 by decide), if_neg (show ¬ (-33 : Int32) = -126 by decide), if_pos rfl, g1, bE_u]
        by_cases hv : v = 0
        · rw [if_pos hv] at k1
          rw [if_pos hv, k1]
          rfl
        · rw [if_neg hv] at k1
          rw [if_neg hv, k1]
          rfl
    · cases s with
      | nil => cases he
      | cons v s =>
        simp only [ev1] at he
        cases he
        refine ⟨(show ¬ (-126 : Int32) = -59 by decide), (show ¬ (-126 : Int32) = -63 by decide), ?_⟩
        obtain ⟨C1, g1, g2, g3⟩ := pull_q h hs
        obtain ⟨C2, k1, k2, k3⟩ := push_q g2 (-v) hl
        refine ⟨C2, ?_, k2, g3.trans k3⟩
        show fX3_step (-126) C = _
        unfold fX3_step
        rw [if_neg (show ¬ (0 : Int32) ≤ -126 by decide), io_M, show fJ0_indexOf_0f7a4 11 (((-(-126 : Int32)).toUInt32 % 65536).toInt32) M00 = some (-1) from io_s 126 (by decide), bd_u, if_pos (show (-126 : Int32) < 0 by decide), if_pos (show (-1 : Int32) < 0 by decide), if_pos rfl, g1, bE_u, k1]
        rfl
    · cases s with
      | nil => cases he
      | cons v s => cases s with
        | nil => cases he
        | cons w s =>
          simp only [ev1] at he
          by_cases ha : a ∈ sgs
          · rw [if_pos ha] at he
            cases he
            obtain ⟨q1, q2, q3, q4, q5, q6, q7, -⟩ := cI_s a ha
            refine ⟨q3, q4, ?_⟩
            obtain ⟨C1, g1, g2, g3⟩ := pull_q h hs
            obtain ⟨C2, k1, k2, k3⟩ := pull_q g2 (Nat.le_trans (Nat.le_succ _) hs)
            obtain ⟨C3, l1, l2, l3⟩ := push_q k2 (jn a w v) hl
            refine ⟨C3, ?_, l2, (g3.trans k3).trans l3⟩
            show fX3_step (-nI a) C = _
            unfold fX3_step
            rw [if_neg q1, io_M, io_s a (List.mem_cons_of_mem _ (List.mem_cons_of_mem _ ha)), bd_u, if_pos q2, if_pos (show (-1 : Int32) < 0 by decide), if_neg q5, if_neg q6, g1, bE_u, k1, bE_u, q7, jn_C ha, bd_u, l1]
            rfl
          · rw [if_neg ha] at he
            cases he
  · obtain ⟨c, rfl⟩ : ∃ k, c = k + 5 := ⟨c - 5, by omega⟩
    simp [ev1] at he
