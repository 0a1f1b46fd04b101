/-! layer B: what the functions answer. Steps of the functions -/
theorem nm_q {α ρ : Type} (e : α) (k : α → ρ) : nm e k = k e := rfl
theorem bd_s {α ρ : Type} (a : α) (k : α → Option ρ) : bd (some a) k = k a := rfl
theorem bE_s {α ρ : Type} (a : α) (M : Mem) (k : α → Mem → Option ρ) : bE (some (a, M)) k = k a M := rfl
theorem oc_S {ρ : Type} (i : Nat) (a : ρ) (b : Nat → ρ) : oc (some i) a b = b i := rfl
theorem oc_N {ρ : Type} (a : ρ) (b : Nat → ρ) : oc none a b = a := rfl
theorem ix_n {ρ : Type} {a n : Nat} {k : Option ρ} (h : a < n) (hn : n < 2 ^ 31) : ix (nI a) n k = k := by
  unfold ix
  rw [nI_toInt (by omega), if_pos ⟨by omega, by omega⟩]
theorem ix_v {ρ : Type} {x : Int32} {n : Nat} {k : Option ρ} (h : vp_in x n) : ix x n k = k := by
  unfold ix
  rw [if_pos (vp_in_iff.mp h)]
theorem FU_lt {N : Nat} (h : N < 100000) : N < FU := h
theorem cl_0 : (0 : Int32).toNatClampNeg = 0 := by decide +kernel
theorem cl_1 : (1 : Int32).toNatClampNeg = 1 := by decide +kernel
theorem cl_2 : (2 : Int32).toNatClampNeg = 2 := by decide +kernel
theorem cl_3 : (3 : Int32).toNatClampNeg = 3 := by decide +kernel
theorem cl_4 : (4 : Int32).toNatClampNeg = 4 := by decide +kernel
theorem cl_5 : (5 : Int32).toNatClampNeg = 5 := by decide +kernel
theorem cl_6 : (6 : Int32).toNatClampNeg = 6 := by decide +kernel
/-- reads of a memory at another field -/
theorem gI_o {M : Mem} {f i j : Nat} {v : Int32} {f' : Nat} (h : f' ≠ f) : mgI (msI M f i j v) f' = mgI M f' := by
  funext i' j'
  rw [mgI_I, if_neg (fun z => h z.1)]
theorem gL_o {M : Mem} {f i j : Nat} {v : Int64} {f' : Nat} (h : f' ≠ f) : mgL (msL M f i j v) f' = mgL M f' := by
  funext i' j'
  rw [mgL_L, if_neg (fun z => h z.1)]
theorem gR_o {M : Mem} {f i j : Nat} {v : Option Nat} {f' : Nat} (h : f' ≠ f) : mgR (msR M f i j v) f' = mgR M f' := by
  funext i' j'
  rw [mgR_R, if_neg (fun z => h z.1)]
theorem gI_L {M : Mem} {f i j : Nat} {v : Int64} {f' : Nat} : mgI (msL M f i j v) f' = mgI M f' := rfl
theorem gI_R {M : Mem} {f i j : Nat} {v : Option Nat} {f' : Nat} : mgI (msR M f i j v) f' = mgI M f' := rfl
theorem gL_I {M : Mem} {f i j : Nat} {v : Int32} {f' : Nat} : mgL (msI M f i j v) f' = mgL M f' := rfl
theorem gL_R {M : Mem} {f i j : Nat} {v : Option Nat} {f' : Nat} : mgL (msR M f i j v) f' = mgL M f' := rfl
theorem gR_I {M : Mem} {f i j : Nat} {v : Int32} {f' : Nat} : mgR (msI M f i j v) f' = mgR M f' := rfl
theorem gR_L {M : Mem} {f i j : Nat} {v : Int64} {f' : Nat} : mgR (msL M f i j v) f' = mgR M f' := rfl
theorem gI_s {M : Mem} {f i j : Nat} {v : Int32} : mgI (msI M f i j v) f i j = v := by rw [mgI_I, if_pos ⟨rfl, rfl, rfl⟩]
theorem gL_s {M : Mem} {f i j : Nat} {v : Int64} : mgL (msL M f i j v) f i j = v := by rw [mgL_L, if_pos ⟨rfl, rfl, rfl⟩]
theorem gR_s {M : Mem} {f i j : Nat} {v : Option Nat} : mgR (msR M f i j v) f i j = v := by rw [mgR_R, if_pos ⟨rfl, rfl, rfl⟩]
theorem gI_n {M : Mem} {f i j : Nat} {v : Int32} {i' j' : Nat} (h : ¬ (i' = i ∧ j' = j)) : mgI (msI M f i j v) f i' j' = mgI M f i' j' := by rw [mgI_I, if_neg (fun z => h z.2)]
theorem gL_n {M : Mem} {f i j : Nat} {v : Int64} {i' j' : Nat} (h : ¬ (i' = i ∧ j' = j)) : mgL (msL M f i j v) f i' j' = mgL M f i' j' := by rw [mgL_L, if_neg (fun z => h z.2)]
/-! an answer with a property -/
def Rt {ρ : Type} (x : Option ρ) (P : ρ → Prop) : Prop := ∃ r, x = some r ∧ P r
theorem Rt_s {ρ : Type} {r : ρ} {P : ρ → Prop} (h : P r) : Rt (some r) P := ⟨r, rfl, h⟩
theorem Rt_m {ρ : Type} {x : Option ρ} {P Q : ρ → Prop} (h : Rt x P) (hPQ : ∀ r, P r → Q r) : Rt x Q := by
  obtain ⟨r, e, h⟩ := h
  exact ⟨r, e, hPQ r h⟩
theorem Rt_d {α ρ : Type} {o : Option α} {k : α → Option ρ} {P : ρ → Prop} {Q : α → Prop} (h : Rt o Q) (hk : ∀ a, Q a → Rt (k a) P) : Rt (bd o k) P := by
  obtain ⟨r, rfl, h⟩ := h
  exact hk r h
theorem Rt_e {α ρ : Type} {o : Option (α × Mem)} {k : α → Mem → Option ρ} {P : ρ → Prop} {Q : α → Mem → Prop} (h : Rt o (fun r => Q r.1 r.2)) (hk : ∀ a M, Q a M → Rt (k a M) P) : Rt (bE o k) P := by
  obtain ⟨r, rfl, h⟩ := h
  exact hk r.1 r.2 h
theorem Rt_i {ρ : Type} {x : Int32} {n : Nat} {k : Option ρ} {P : ρ → Prop} (hx : vp_in x n) (h : Rt k P) : Rt (ix x n k) P := by
  rw [ix_v hx]
  exact h
theorem Rt_if {ρ : Type} {c : Prop} {i : Decidable c} {a b : Option ρ} {P : ρ → Prop} (h1 : c → Rt a P) (h2 : ¬ c → Rt b P) : Rt (if c then a else b) P := by
  by_cases hc : c
  · rw [if_pos hc]
    exact h1 hc
  · rw [if_neg hc]
    exact h2 hc
/-! loops that count up -/
theorem lpR {σ ρ : Type} (F : Nat → Nat → σ → Option ρ) (P : ρ → Prop) (N : Nat) (I : Nat → σ → Prop) (hx : ∀ n s, I N s → Rt (F (n + 1) N s) P)
    (hs : ∀ n i s, i < N → I i s → (∀ s', I (i + 1) s' → Rt (F n (i + 1) s') P) → Rt (F (n + 1) i s) P) : ∀ (n i : Nat) (s : σ), i ≤ N → I i s → N < n + i → Rt (F n i s) P := by
  intro n
  induction n with
  | zero => intro i s hi h hn; omega
  | succ n ih =>
    intro i s hi h hn
    rcases Nat.lt_or_ge i N with h1 | h1
    · exact hs n i s h1 h (fun s' h' => ih (i + 1) s' h1 h' (by omega))
    · have e : i = N := by omega
      subst e
      exact hx n s h
theorem lpT {σ ρ : Type} (F : Nat → Nat → σ → Option ρ) (N : Nat) (T : Nat → σ) (e : Option ρ) (hx : ∀ n, F (n + 1) N (T N) = e) (hs : ∀ n i, i < N → F (n + 1) i (T i) = F n (i + 1) (T (i + 1))) : ∀ (n i : Nat), i ≤ N → N < n + i → F n i (T i) = e := by
  intro n
  induction n with
  | zero => intro i hi hn; omega
  | succ n ih =>
    intro i hi hn
    rcases Nat.lt_or_ge i N with h1 | h1
    · rw [hs n i h1]
      exact ih (i + 1) h1 (by omega)
    · have e : i = N := by omega
      subst e
      exact hx n
/-! sets of bits -/
def hB (x : Int64) (k : Nat) : Bool := x.toBitVec.getLsbD k
theorem hB_ext {x y : Int64} (h : ∀ k, k < 64 → hB x k = hB y k) : x = y := Int64.toBitVec_inj.mp (BitVec.eq_of_getLsbD_eq (fun i hi => h i hi))
theorem hB_or (x y : Int64) (k : Nat) : hB (x ||| y) k = (hB x k || hB y k) := by unfold hB; rw [Int64.toBitVec_or, BitVec.getLsbD_or]
theorem hB_and (x y : Int64) (k : Nat) : hB (x &&& y) k = (hB x k && hB y k) := by unfold hB; rw [Int64.toBitVec_and, BitVec.getLsbD_and]
theorem hB_xor (x y : Int64) (k : Nat) : hB (x ^^^ y) k = (hB x k ^^ hB y k) := by unfold hB; rw [Int64.toBitVec_xor, BitVec.getLsbD_xor]
theorem hB_ge {x : Int64} {k : Nat} (h : 64 ≤ k) : hB x k = false := BitVec.getLsbD_of_ge _ _ h
theorem hB_0 (k : Nat) : hB 0 k = false := by
  rcases Nat.lt_or_ge k 64 with h | h
  · exact (by decide +kernel : ∀ k, k < 64 → hB 0 k = false) k h
  · exact hB_ge h
theorem hB_m1 : ∀ k, k < 64 → hB (-1) k = true := by decide +kernel
theorem bit_tp : ∀ k, k < 64 → (fX11_bit (nI k)).toBitVec = BitVec.twoPow 64 k := by decide +kernel
theorem hB_bit {j : Nat} (hj : j < 64) (k : Nat) : hB (fX11_bit (nI j)) k = decide (k = j) := by
  unfold hB
  rw [bit_tp j hj, BitVec.getLsbD_twoPow]
  by_cases h : k = j
  · subst h; simp [hj]
  · simp [h, Ne.symm h]
theorem sft_q (k : Nat) : (1 : Int64) <<< ((nI k).toInt64 &&& 63) = fX11_bit (nI k) := rfl
theorem hB_lo {w : Int64} : (w &&& 1 = 0 ↔ hB w 0 = false) ∧ (w &&& 1 = 1 ↔ hB w 0 = true) := by
  have e : w &&& 1 = if hB w 0 then 1 else 0 := by
    refine hB_ext (fun k hk => ?_)
    rw [hB_and]
    have h1 : hB 1 k = decide (k = 0) := (by decide +kernel : ∀ k, k < 64 → hB 1 k = decide (k = 0)) k hk
    rw [h1]
    by_cases hk0 : k = 0
    · subst hk0
      cases hw : hB w 0 <;> simp [hB_0, h1]
    · cases hw : hB w 0 <;> simp [hB_0, h1, hk0]
  rw [e]
  cases hw : hB w 0 <;> simp
theorem sru_amt : ∀ k, k < 64 → (((nI k).toInt64.toUInt64 &&& Int64.toUInt64 63).toBitVec % 64).toNat = k := by decide +kernel
theorem sra_amt : ∀ k, k < 64 → (((nI k).toInt64 &&& 63).toBitVec.smod 64).toNat = k := by decide +kernel
theorem hB_sru (x : Int64) {k : Nat} (hk : k < 64) (i : Nat) : hB ((x.toUInt64 >>> ((nI k).toInt64.toUInt64 &&& Int64.toUInt64 63)).toInt64) i = hB x (k + i) := by
  show (x.toUInt64 >>> ((nI k).toInt64.toUInt64 &&& Int64.toUInt64 63)).toBitVec.getLsbD i = x.toUInt64.toBitVec.getLsbD (k + i)
  rw [UInt64.toBitVec_shiftRight]
  show (x.toUInt64.toBitVec >>> (((nI k).toInt64.toUInt64 &&& Int64.toUInt64 63).toBitVec % 64).toNat).getLsbD i = _
  rw [sru_amt k hk, BitVec.getLsbD_ushiftRight]
theorem hB_sra (x : Int64) {k : Nat} (hk : k < 64) : hB (x >>> ((nI k).toInt64 &&& 63)) 0 = hB x k := by
  unfold hB
  rw [Int64.toBitVec_shiftRight]
  show (x.toBitVec.sshiftRight (((nI k).toInt64 &&& 63).toBitVec.smod 64).toNat).getLsbD 0 = _
  rw [sra_amt k hk, BitVec.getLsbD_sshiftRight]
  simp [hk]
theorem lg_0 (x y : Int64) : lg_cmp x y = 0 ↔ x = y := by
  unfold lg_cmp
  by_cases h : x > y
  · rw [if_pos h]
    exact ⟨fun z => absurd z (by decide), fun z => by subst z; exact absurd h (Int64.lt_irrefl)⟩
  · rw [if_neg h]
    by_cases h2 : x = y
    · rw [if_pos h2]; exact ⟨fun _ => h2, fun _ => rfl⟩
    · rw [if_neg h2]; exact ⟨fun z => absurd z (by decide), fun z => absurd z h2⟩
theorem isIn_q (x : Int64) {k : Nat} (hk : k < 64) : fX11_isIn x (nI k) = if hB x k then 1 else 0 := by
  have h := (hB_lo (w := (x.toUInt64 >>> ((nI k).toInt64.toUInt64 &&& Int64.toUInt64 63)).toInt64)).1
  rw [hB_sru x hk 0, Nat.add_zero] at h
  unfold fX11_isIn
  cases hb : hB x k
  · rw [hb] at h
    rw [if_pos ((lg_0 _ _).mpr (h.mpr rfl))]
    simp
  · rw [hb] at h
    rw [if_neg (fun z => absurd (h.mp ((lg_0 _ _).mp z)) (by decide))]
    simp
theorem isIn_0 (x : Int64) {k : Nat} (hk : k < 64) : fX11_isIn x (nI k) = 0 ↔ hB x k = false := by
  rw [isIn_q x hk]
  cases hB x k <;> simp <;> decide
theorem onb_q (x : Int64) {k : Nat} (hk : k < 64) : lg_cmp ((x >>> ((nI k).toInt64 &&& 63)) &&& (1 : Int64)) (1 : Int64) = 0 ↔ hB x k = true := by
  rw [lg_0, hB_lo.2, hB_sra x hk]
theorem is0_q (x : Int64) : x = 0 ↔ ∀ k, k < 64 → hB x k = false := by
  constructor
  · intro h k hk; rw [h, hB_0]
  · intro h; exact hB_ext (fun k hk => by rw [h k hk, hB_0])
