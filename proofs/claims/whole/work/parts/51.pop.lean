/-! rows of the kit (laws/BITS), pasted -/
theorem wb_tb (n : Nat) : (lN n).toBitVec = BitVec.ofNat 64 n := rfl
theorem wb_inj {a b : Int64} (h : a.toBitVec = b.toBitVec) : a = b := Int64.toBitVec_inj.mp h
theorem wb_tn {n : Nat} (h : n < 2 ^ 64) : (lN n).toBitVec.toNat = n := by rw [wb_tb, BitVec.toNat_ofNat, Nat.mod_eq_of_lt h]
theorem wb_of (x : Int64) : ∃ n, n < 2 ^ 64 ∧ x = lN n := ⟨x.toBitVec.toNat, x.toBitVec.isLt, wb_inj (by rw [wb_tb]; simp)⟩
theorem wb_of32 (x : Int32) : ∃ n, n < 2 ^ 32 ∧ x = nI n := ⟨x.toBitVec.toNat, x.toBitVec.isLt, Int32.toBitVec_inj.mp (by show _ = BitVec.ofNat 32 _; simp)⟩
theorem wb_and {a b : Nat} (ha : a < 2 ^ 64) (hb : b < 2 ^ 64) : lN a &&& lN b = lN (a &&& b) := by
  apply wb_inj
  rw [Int64.toBitVec_and, wb_tb, wb_tb, wb_tb]
  apply BitVec.eq_of_toNat_eq
  rw [BitVec.toNat_and, BitVec.toNat_ofNat, BitVec.toNat_ofNat, BitVec.toNat_ofNat, Nat.mod_eq_of_lt ha, Nat.mod_eq_of_lt hb, Nat.mod_eq_of_lt (Nat.and_lt_two_pow _ hb)]
theorem wb_or {a b : Nat} (ha : a < 2 ^ 64) (hb : b < 2 ^ 64) : lN a ||| lN b = lN (a ||| b) := by
  apply wb_inj
  rw [Int64.toBitVec_or, wb_tb, wb_tb, wb_tb]
  apply BitVec.eq_of_toNat_eq
  rw [BitVec.toNat_or, BitVec.toNat_ofNat, BitVec.toNat_ofNat, BitVec.toNat_ofNat, Nat.mod_eq_of_lt ha, Nat.mod_eq_of_lt hb, Nat.mod_eq_of_lt (Nat.or_lt_two_pow ha hb)]
theorem u_tn {n : Nat} (h : n < 2 ^ 64) : (UInt64.ofNat n).toNat = n := Nat.mod_eq_of_lt h
theorem g_and {a b c : Nat} (ha : a < 2 ^ 64) (hb : b < 2 ^ 64) (hc : a &&& b = c) : lN a &&& lN b = lN c := by
  subst hc
  have h : UInt64.ofNat a &&& UInt64.ofNat b = UInt64.ofNat (a &&& b) := UInt64.toNat_inj.mp (by rw [UInt64.toNat_and, u_tn ha, u_tn hb, u_tn (Nat.and_lt_two_pow a hb)])
  have h2 := congrArg UInt64.toInt64 h
  exact h2
theorem g_ushr {a k p : Nat} {y : UInt64} (hy : y = UInt64.ofNat k) (hk : k < 64) (hp : 2 ^ k = p) (ha : a < 2 ^ 64) : ((lN a).toUInt64 >>> y).toInt64 = lN (a / p) := by
  subst hy hp
  have h : UInt64.ofNat a >>> UInt64.ofNat k = UInt64.ofNat (a / 2 ^ k) := UInt64.toNat_inj.mp (by rw [UInt64.toNat_shiftRight, u_tn ha, u_tn (by omega), u_tn (Nat.lt_of_le_of_lt (Nat.div_le_self _ _) ha), Nat.mod_eq_of_lt hk, Nat.shiftRight_eq_div_pow])
  have h2 := congrArg UInt64.toInt64 h
  exact h2
theorem nx_and (a b : Nat) : nI a &&& nI b = nI (a &&& b) := by
  apply Int32.toBitVec_inj.1
  show BitVec.ofNat 32 a &&& BitVec.ofNat 32 b = BitVec.ofNat 32 (a &&& b)
  apply BitVec.eq_of_getLsbD_eq
  intro i hi
  simp [hi]
theorem fa_lit (n : Nat) : (OfNat.ofNat n : Int32) = nI n := rfl
theorem fa_litL (n : Nat) : (OfNat.ofNat n : Int64) = lN n := rfl
/-! how many bits -/
def ctU (p : Nat → Bool) : Nat → Nat
  | 0 => 0
  | n + 1 => ctU p n + (if p n then 1 else 0)
theorem ctU_le (p : Nat → Bool) : ∀ n, ctU p n ≤ n
  | 0 => Nat.le_refl 0
  | n + 1 => by
    have h := ctU_le p n
    show ctU p n + (if p n then 1 else 0) ≤ n + 1
    split <;> omega
theorem ctU_cong {p q : Nat → Bool} : ∀ {n : Nat}, (∀ k, k < n → p k = q k) → ctU p n = ctU q n
  | 0, _ => rfl
  | n + 1, h => by
    show ctU p n + _ = ctU q n + _
    rw [ctU_cong (fun k hk => h k (Nat.lt_succ_of_lt hk)), h n (Nat.lt_succ_self n)]
theorem ctU_add (p : Nat → Bool) (a : Nat) : ∀ b, ctU p (a + b) = ctU p a + ctU (fun k => p (a + k)) b
  | 0 => rfl
  | b + 1 => by
    show ctU p (a + b) + _ = ctU p a + (ctU (fun k => p (a + k)) b + _)
    rw [ctU_add p a b, Nat.add_assoc]
    rfl
theorem ctU_front (p : Nat → Bool) (n : Nat) : ctU p (n + 1) = (if p 0 then 1 else 0) + ctU (fun k => p (k + 1)) n := by
  rw [Nat.add_comm n 1, ctU_add p 1 n]
  have e : (fun k => p (1 + k)) = (fun k => p (k + 1)) := funext fun k => by rw [Nat.add_comm]
  rw [e]
  show 0 + _ + _ = _
  rw [Nat.zero_add]
theorem ctU_no {p : Nat → Bool} {n : Nat} (h : ∀ k, k < n → p k = false) : ctU p n = 0 := by
  induction n with
  | zero => rfl
  | succ n ih =>
    show ctU p n + _ = 0
    rw [ih (fun k hk => h k (Nat.lt_succ_of_lt hk)), h n (Nat.lt_succ_self n)]
    rfl
theorem ctU_ext {p : Nat → Bool} {a b : Nat} (hab : a ≤ b) (h : ∀ k, a ≤ k → k < b → p k = false) : ctU p b = ctU p a := by
  obtain ⟨d, rfl⟩ : ∃ d, b = a + d := ⟨b - a, by omega⟩
  rw [ctU_add, ctU_no (p := fun k => p (a + k)) (fun k hk => h (a + k) (by omega) (by omega)), Nat.add_zero]
theorem ct_0 (n w : Nat) : ctU n.testBit (w + 1) = n % 2 + ctU (n / 2).testBit w := by
  rw [ctU_front]
  have e : (fun k => n.testBit (k + 1)) = (n / 2).testBit := funext fun k => Nat.testBit_succ n k
  rw [e]
  congr 1
  rw [Nat.testBit_zero]
  rcases Nat.mod_two_eq_zero_or_one n with h | h <;> simp [h]
/-- the lowest bit taken away -/
theorem ct_ker : ∀ (w n : Nat), 0 < n → n < 2 ^ w → ctU (n &&& (n - 1)).testBit w + 1 = ctU n.testBit w
  | 0, n, h0, h => by
    rw [Nat.pow_zero] at h
    omega
  | w + 1, n, h0, h => by
    rw [Nat.pow_succ] at h
    rw [ct_0 n w, ct_0 (n &&& (n - 1)) w]
    have e2 : (n &&& (n - 1)) / 2 = (n / 2) &&& ((n - 1) / 2) := by
      have := Nat.and_div_two_pow (a := n) (b := n - 1) (n := 1)
      simpa using this
    have e1 : (n &&& (n - 1)) % 2 = (n % 2) &&& ((n - 1) % 2) := by
      have := Nat.and_mod_two_pow (a := n) (b := n - 1) (n := 1)
      simpa using this
    rw [e1, e2]
    rcases Nat.mod_two_eq_zero_or_one n with hm | hm
    · have h1 : (n - 1) / 2 = n / 2 - 1 := by omega
      have ih := ct_ker w (n / 2) (by omega) (by omega)
      rw [hm, h1, Nat.zero_and]
      omega
    · have h1 : (n - 1) / 2 = n / 2 := by omega
      have h2 : (n - 1) % 2 = 0 := by omega
      rw [hm, h1, h2, Nat.and_self]
      show 0 + _ + 1 = _
      omega
theorem and_split {a m : Nat} (c d : Nat) (ha : a < 256) (hm : m < 256) : (a + 256 * c) &&& (m + 256 * d) = (a &&& m) + 256 * (c &&& d) := by
  have h1 := Nat.and_mod_two_pow (a := a + 256 * c) (b := m + 256 * d) (n := 8)
  have h2 := Nat.and_div_two_pow (a := a + 256 * c) (b := m + 256 * d) (n := 8)
  have e1 : (a + 256 * c) % 2 ^ 8 = a := by omega
  have e2 : (m + 256 * d) % 2 ^ 8 = m := by omega
  have e3 : (a + 256 * c) / 2 ^ 8 = c := by omega
  have e4 : (m + 256 * d) / 2 ^ 8 = d := by omega
  rw [e1, e2] at h1
  rw [e3, e4] at h2
  omega
def mK (c : Nat) : Nat → Nat
  | 0 => 0
  | k + 1 => c + 256 * mK c k
def sA (k n : Nat) : Nat := n - ((n / 2) &&& mK 85 k)
def sQ (k v : Nat) : Nat := (v &&& mK 51 k) + ((v / 4) &&& mK 51 k)
def sC (k v : Nat) : Nat := (v + v / 16) &&& mK 15 k
def qA (b : Nat) : Nat := b - ((b / 2) &&& 85)
def qQ (v : Nat) : Nat := (v &&& 51) + ((v / 4) &&& 51)
def qC (v : Nat) : Nat := (v + v / 16) &&& 15
theorem q_a1 : ∀ x, x < 256 → (x / 2) &&& 85 ≤ x ∧ (x / 2 &&& 85) = (x / 2 + 128 &&& 85) := by decide +kernel
theorem q_b1 : ∀ x, x < 256 → ∀ t, t < 4 → (x / 4 + 64 * t &&& 51) = (x / 4 &&& 51) := by decide +kernel
theorem q_c1 : ∀ b, b < 256 → qA b < 256 ∧ qQ (qA b) ≤ 68 ∧ qQ (qA b) % 16 ≤ 4 ∧ (∀ t, t < 5 → (qQ (qA b) + qQ (qA b) / 16 + 16 * t &&& 15) = qC (qQ (qA b))) ∧ qC (qQ (qA b)) = ctU b.testBit 8 := by decide +kernel
theorem sA_s (k n : Nat) : sA (k + 1) n = qA (n % 256) + 256 * sA k (n / 256) := by
  unfold sA qA
  have hq := q_a1 (n % 256) (by omega)
  have hle : (n / 256 / 2) &&& mK 85 k ≤ n / 256 := Nat.le_trans Nat.and_le_left (Nat.div_le_self _ _)
  have e : n / 2 = (n % 256 / 2 + 128 * (n / 256 % 2)) + 256 * (n / 256 / 2) := by omega
  have e2 : (n / 2) &&& mK 85 (k + 1) = (n % 256 / 2 &&& 85) + 256 * ((n / 256 / 2) &&& mK 85 k) := by
    rw [e]
    show _ &&& (85 + 256 * mK 85 k) = _
    rw [and_split _ _ (by omega) (by omega)]
    rcases Nat.mod_two_eq_zero_or_one (n / 256) with h | h
    · rw [h, Nat.mul_zero, Nat.add_zero]
    · rw [h, Nat.mul_one, ← hq.2]
  rw [e2]
  have h1 := hq.1
  generalize n % 256 / 2 &&& 85 = u at h1 ⊢
  generalize n / 256 / 2 &&& mK 85 k = w at hle ⊢
  omega
theorem sQ_s (k lo hi : Nat) (hl : lo < 256) : sQ (k + 1) (lo + 256 * hi) = qQ lo + 256 * sQ k hi := by
  unfold sQ qQ
  have e : (lo + 256 * hi) / 4 = (lo / 4 + 64 * (hi % 4)) + 256 * (hi / 4) := by omega
  rw [e]
  show (_ &&& (51 + 256 * mK 51 k)) + (_ &&& (51 + 256 * mK 51 k)) = _
  rw [and_split _ _ hl (by omega), and_split _ _ (by omega) (by omega), q_b1 lo hl (hi % 4) (by omega)]
  omega
theorem sC_s (k b hi : Nat) (hb : b < 256) (hh : hi % 16 ≤ 4) : sC (k + 1) (qQ (qA b) + 256 * hi) = ctU b.testBit 8 + 256 * sC k hi := by
  obtain ⟨-, h2, -, h4, h5⟩ := q_c1 b hb
  unfold sC
  have e : (qQ (qA b) + 256 * hi) + (qQ (qA b) + 256 * hi) / 16 = (qQ (qA b) + qQ (qA b) / 16 + 16 * (hi % 16)) + 256 * (hi + hi / 16) := by omega
  rw [e]
  show _ &&& (15 + 256 * mK 15 k) = _
  rw [and_split _ _ (by omega) (by omega), h4 (hi % 16) (by omega), h5]
theorem sF_s (k n : Nat) : sC (k + 1) (sQ (k + 1) (sA (k + 1) n)) = ctU (n % 256).testBit 8 + 256 * sC k (sQ k (sA k (n / 256))) := by
  have hb := q_c1 (n % 256) (by omega)
  rw [sA_s, sQ_s _ _ _ hb.1]
  refine sC_s k _ _ (by omega) ?_
  cases k with
  | zero =>
    show ((_ &&& 0) + (_ &&& 0)) % 16 ≤ 4
    rw [Nat.and_zero, Nat.and_zero]
    omega
  | succ k =>
    have hb2 := q_c1 (n / 256 % 256) (by omega)
    rw [sA_s, sQ_s _ _ _ hb2.1]
    have := hb2.2.2.1
    omega
theorem ct_byte (n m : Nat) : ctU n.testBit (8 + m) = ctU (n % 256).testBit 8 + ctU (n / 256).testBit m := by
  rw [ctU_add]
  have e1 : ctU n.testBit 8 = ctU (n % 256).testBit 8 := ctU_cong fun k hk => by
    have := Nat.testBit_mod_two_pow n 8 k
    rw [show (2 : Nat) ^ 8 = 256 from rfl] at this
    rw [this]
    simp [hk]
  have e2 : (fun k => n.testBit (8 + k)) = (n / 256).testBit := funext fun k => by
    have := Nat.testBit_div_two_pow (x := n) (n := 8) k
    rw [show (2 : Nat) ^ 8 = 256 from rfl] at this
    rw [this, Nat.add_comm]
  rw [e1, e2]
theorem sF_0 (v : Nat) : sC 0 v = 0 := Nat.and_zero _
theorem sF_8 (n : Nat) : ∃ a b c d e f g h : Nat, a ≤ 8 ∧ b ≤ 8 ∧ c ≤ 8 ∧ d ≤ 8 ∧ e ≤ 8 ∧ f ≤ 8 ∧ g ≤ 8 ∧ h ≤ 8 ∧ ctU n.testBit 64 = a + (b + (c + (d + (e + (f + (g + h)))))) ∧ sC 8 (sQ 8 (sA 8 n)) = a + 256 * (b + 256 * (c + 256 * (d + 256 * (e + 256 * (f + 256 * (g + 256 * h)))))) := by
  refine ⟨ctU (n % 256).testBit 8, ctU (n / 256 % 256).testBit 8, ctU (n / 256 / 256 % 256).testBit 8, ctU (n / 256 / 256 / 256 % 256).testBit 8, ctU (n / 256 / 256 / 256 / 256 % 256).testBit 8, ctU (n / 256 / 256 / 256 / 256 / 256 % 256).testBit 8, ctU (n / 256 / 256 / 256 / 256 / 256 / 256 % 256).testBit 8, ctU (n / 256 / 256 / 256 / 256 / 256 / 256 / 256 % 256).testBit 8, ctU_le _ _, ctU_le _ _, ctU_le _ _, ctU_le _ _, ctU_le _ _, ctU_le _ _, ctU_le _ _, ctU_le _ _, ?_, ?_⟩
  rotate_left
  · rw [sF_s 7, sF_s 6, sF_s 5, sF_s 4, sF_s 3, sF_s 2, sF_s 1, sF_s 0, sF_0, Nat.mul_zero, Nat.add_zero]
  · rw [show 64 = 8 + (8 + (8 + (8 + (8 + (8 + (8 + (8 + 0))))))) from rfl, ct_byte, ct_byte, ct_byte, ct_byte, ct_byte, ct_byte, ct_byte, ct_byte]
    rfl
theorem sF_4 (n : Nat) : ∃ a b c d : Nat, a ≤ 8 ∧ b ≤ 8 ∧ c ≤ 8 ∧ d ≤ 8 ∧ ctU n.testBit 32 = a + (b + (c + d)) ∧ sC 4 (sQ 4 (sA 4 n)) = a + 256 * (b + 256 * (c + 256 * d)) := by
  refine ⟨ctU (n % 256).testBit 8, ctU (n / 256 % 256).testBit 8, ctU (n / 256 / 256 % 256).testBit 8, ctU (n / 256 / 256 / 256 % 256).testBit 8, ctU_le _ _, ctU_le _ _, ctU_le _ _, ctU_le _ _, ?_, ?_⟩
  rotate_left
  · rw [sF_s 3, sF_s 2, sF_s 1, sF_s 0, sF_0, Nat.mul_zero, Nat.add_zero]
  · rw [show 32 = 8 + (8 + (8 + (8 + 0))) from rfl, ct_byte, ct_byte, ct_byte, ct_byte]
    rfl
theorem mK_85 : mK 85 8 = 6148914691236517205 ∧ mK 85 4 = 1431655765 := by decide +kernel
theorem mK_51 : mK 51 8 = 3689348814741910323 ∧ mK 51 4 = 858993459 := by decide +kernel
theorem mK_15 : mK 15 8 = 1085102592571150095 ∧ mK 15 4 = 252645135 := by decide +kernel
theorem lt_add64 {a b : Nat} (ha : a ≤ 3689348814741910323) (hb : b ≤ 3689348814741910323) : a + b < 2 ^ 64 := by omega
theorem hB_lN {n : Nat} (h : n < 2 ^ 64) (k : Nat) : hB (lN n) k = n.testBit k := by
  unfold hB
  rw [← BitVec.testBit_toNat, wb_tn h]
theorem fin8 {a b c d e f g h X1 X2 X3 X4 X5 X6 V : Nat} (ha : a ≤ 8) (hb : b ≤ 8) (hc : c ≤ 8) (hd : d ≤ 8) (he : e ≤ 8) (hf : f ≤ 8) (hg : g ≤ 8) (hh : h ≤ 8) (hV : V = a + 256 * X1) (h1 : X1 = b + 256 * X2) (h2 : X2 = c + 256 * X3) (h3 : X3 = d + 256 * X4) (h4 : X4 = e + 256 * X5) (h5 : X5 = f + 256 * X6) (h6 : X6 = g + 256 * h) :
    (V + V / 256 + (V + V / 256) / 65536 + (V + V / 256 + (V + V / 256) / 65536) / 4294967296) % 128 = a + (b + (c + (d + (e + (f + (g + h)))))) := by
  have q1 : V / 256 = X1 := by omega
  rw [q1]
  have q2 : (V + X1) / 65536 = X2 + X3 := by omega
  rw [q2]
  have q3 : (V + X1 + (X2 + X3)) / 4294967296 = X4 + X5 + (X6 + h) := by omega
  rw [q3]
  omega
theorem fin4 {a b c d X1 X2 V : Nat} (ha : a ≤ 8) (hb : b ≤ 8) (hc : c ≤ 8) (hd : d ≤ 8) (hV : V = a + 256 * X1) (h1 : X1 = b + 256 * X2) (h2 : X2 = c + 256 * d) :
    (V + V / 2 ^ 8 + (V + V / 2 ^ 8) / 2 ^ 16) % 2 ^ 6 = a + (b + (c + d)) := by
  have q1 : V / 2 ^ 8 = X1 := by omega
  rw [q1]
  have q2 : (V + X1) / 2 ^ 16 = X2 + d := by omega
  rw [q2]
  omega
theorem popL {n : Nat} (hn : n < 2 ^ 64) : fJ13_bitCount_95d88 (lN n) = nI (ctU n.testBit 64) := by
  obtain ⟨a, b, c, d, e, f, g, h, ha, hb, hc, hd, he, hf, hg, hh, h1, h2⟩ := sF_8 n
  rw [h1]
  unfold fJ13_bitCount_95d88
  simp only [nm_q]
  have hA : sA 8 n ≤ n := Nat.sub_le _ _
  have e1 : lN n - (((lN n).toUInt64 >>> ((1 : Int32).toInt64.toUInt64 &&& Int64.toUInt64 63)).toInt64 &&& (6148914691236517205 : Int64)) = lN (sA 8 n) := by
    rw [g_ushr (k := 1) (p := 2) (by decide +kernel) (by decide) rfl hn, fa_litL 6148914691236517205, g_and (c := n / 2 &&& mK 85 8) (by omega) (by decide) (by rw [mK_85.1]), lN_sub (Nat.le_trans Nat.and_le_left (Nat.div_le_self _ _))]
    rfl
  rw [e1]
  have hAl : sA 8 n < 2 ^ 64 := by omega
  generalize sA 8 n = v at *
  have e2 : (lN v &&& (3689348814741910323 : Int64)) + (((lN v).toUInt64 >>> ((2 : Int32).toInt64.toUInt64 &&& Int64.toUInt64 63)).toInt64 &&& (3689348814741910323 : Int64)) = lN (sQ 8 v) := by
    rw [g_ushr (k := 2) (p := 4) (by decide +kernel) (by decide) rfl hAl, fa_litL 3689348814741910323, g_and (c := v &&& mK 51 8) (by omega) (by decide) (by rw [mK_51.1]), g_and (c := v / 4 &&& mK 51 8) (by omega) (by decide) (by rw [mK_51.1]), lN_add]
    rfl
  rw [e2]
  have hQl : sQ 8 v ≤ 3689348814741910323 + 3689348814741910323 := by
    unfold sQ
    rw [mK_51.1]
    exact Nat.add_le_add Nat.and_le_right Nat.and_le_right
  generalize sQ 8 v = w at *
  have e3 : (lN w + ((lN w).toUInt64 >>> ((4 : Int32).toInt64.toUInt64 &&& Int64.toUInt64 63)).toInt64) &&& (1085102592571150095 : Int64) = lN (sC 8 w) := by
    rw [g_ushr (k := 4) (p := 16) (by decide +kernel) (by decide) rfl (by omega), lN_add, fa_litL 1085102592571150095, g_and (c := (w + w / 16) &&& mK 15 8) (by omega) (by decide) (by rw [mK_15.1])]
    rfl
  rw [e3, h2]
  rw [g_ushr (k := 8) (p := 256) (by decide +kernel) (by decide) rfl (by omega), lN_add]
  rw [g_ushr (k := 16) (p := 65536) (by decide +kernel) (by decide) rfl (by omega), lN_add]
  rw [g_ushr (k := 32) (p := 4294967296) (by decide +kernel) (by decide) rfl (by omega), lN_add]
  rw [lN_i, fa_lit 127, nx_and]
  congr 1
  rw [show (127 : Nat) = 2 ^ 7 - 1 from rfl, Nat.and_two_pow_sub_one_eq_mod]
  exact fin8 ha hb hc hd he hf hg hh rfl rfl rfl rfl rfl rfl rfl
theorem popI {n : Nat} (hn : n < 2 ^ 32) : fJ6_bitCount_0f7a4 (nI n) = nI (ctU n.testBit 32) := by
  obtain ⟨a, b, c, d, ha, hb, hc, hd, h1, h2⟩ := sF_4 n
  rw [h1]
  unfold fJ6_bitCount_0f7a4
  simp only [nm_q]
  have hA : sA 4 n ≤ n := Nat.sub_le _ _
  have e1 : nI n - (((nI n).toUInt32 >>> ((1 : Int32).toUInt32 &&& Int32.toUInt32 31)).toInt32 &&& (1431655765 : Int32)) = nI (sA 4 n) := by
    rw [pk_ushrN hn 1 1 (by decide +kernel), fa_lit 1431655765, nx_and, ← mK_85.2, pk_sub (Nat.le_trans Nat.and_le_left (Nat.div_le_self _ _))]
    rfl
  rw [e1]
  have hAl : sA 4 n < 2 ^ 32 := by omega
  generalize sA 4 n = v at *
  have e2 : (nI v &&& (858993459 : Int32)) + (((nI v).toUInt32 >>> ((2 : Int32).toUInt32 &&& Int32.toUInt32 31)).toInt32 &&& (858993459 : Int32)) = nI (sQ 4 v) := by
    rw [pk_ushrN hAl 2 2 (by decide +kernel), fa_lit 858993459, nx_and, nx_and, ← mK_51.2, nI_add]
    rfl
  rw [e2]
  have hQl : sQ 4 v ≤ 858993459 + 858993459 := by
    unfold sQ
    rw [mK_51.2]
    exact Nat.add_le_add Nat.and_le_right Nat.and_le_right
  generalize sQ 4 v = w at *
  have e3 : (nI w + ((nI w).toUInt32 >>> ((4 : Int32).toUInt32 &&& Int32.toUInt32 31)).toInt32) &&& (252645135 : Int32) = nI (sC 4 w) := by
    rw [pk_ushrN (by omega) 4 4 (by decide +kernel), nI_add, fa_lit 252645135, nx_and, ← mK_15.2]
    rfl
  rw [e3, h2]
  rw [pk_ushrN (by omega) 8 8 (by decide +kernel), nI_add]
  rw [pk_ushrN (by omega) 16 16 (by decide +kernel), nI_add]
  rw [fa_lit 63, nx_and]
  congr 1
  rw [show (63 : Nat) = 2 ^ 6 - 1 from rfl, Nat.and_two_pow_sub_one_eq_mod]
  exact fin4 ha hb hc hd rfl rfl rfl
theorem pop64 (x : Int64) : fJ13_bitCount_95d88 x = nI (ctU (hB x) 64) := by
  obtain ⟨n, hn, rfl⟩ := wb_of x
  rw [popL hn, ctU_cong (fun k _ => (hB_lN hn k).symm)]
/-- the reference's own count -/
theorem bitsOf_l : ∀ (c m i n : Nat), n < 2 ^ 64 → ctU n.testBit 64 = c → c < m → fX12_bitsOf_l4 m (nI i) (lN n) = some (nI (i + c)) := by
  intro c
  induction c with
  | zero =>
    intro m i n hn hc hm
    obtain ⟨m, rfl⟩ : ∃ k, m = k + 1 := ⟨m - 1, by omega⟩
    have h0 : n = 0 := by
      rcases Nat.eq_zero_or_pos n with h | h
      · exact h
      · have := ct_ker 64 n h hn
        omega
    subst h0
    simp only [fX12_bitsOf_l4, fX12_bitsOf_b4]
    rw [if_pos ((lg_0 _ _).mpr (show lN 0 = 0 from rfl))]
    rfl
  | succ c ih =>
    intro m i n hn hc hm
    obtain ⟨m, rfl⟩ : ∃ k, m = k + 1 := ⟨m - 1, by omega⟩
    have h0 : 0 < n := by
      rcases Nat.eq_zero_or_pos n with h | h
      · subst h
        rw [ctU_no (fun k _ => Nat.zero_testBit k)] at hc
        omega
      · exact h
    have hk := ct_ker 64 n h0 hn
    simp only [fX12_bitsOf_l4, fX12_bitsOf_b4, nm_q]
    rw [if_neg (fun z => by
      have := (lg_0 _ _).mp z
      have h2 := congrArg (fun y => Int64.toBitVec y) this
      have h3 := congrArg BitVec.toNat h2
      rw [wb_tn hn] at h3
      exact absurd h3 (by show n ≠ 0; omega))]
    have e : lN n &&& (lN n - (1 : Int64)) = lN (n &&& (n - 1)) := by
      rw [fa_litL 1, lN_sub h0, g_and hn (by omega) rfl]
    rw [e, show nI i + (1 : Int32) = nI (i + 1) from nI_1 i, ih m (i + 1) (n &&& (n - 1)) (Nat.lt_of_le_of_lt Nat.and_le_left hn) (by omega) (by omega)]
    congr 2
    omega
theorem bitsOf_q (x : Int64) : fX12_bitsOf x = some (nI (ctU (hB x) 64)) := by
  obtain ⟨n, hn, rfl⟩ := wb_of x
  have h := ctU_le n.testBit 64
  have e := bitsOf_l _ FU 0 n hn rfl (Nat.lt_of_le_of_lt h (FU_lt (by omega)))
  rw [Nat.zero_add] at e
  rw [ctU_cong (fun k _ => hB_lN hn k)]
  exact e
theorem pop_q (x : Int64) : fX12_bitsOf x = some (fJ13_bitCount_95d88 x) := by rw [bitsOf_q, pop64]
