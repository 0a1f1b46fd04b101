/-! one more stone -/
def EqP (p : Nat → Bool) (C C' : Mem) : Prop := ∀ f, p f = false → EqF C C' f
theorem EqP.on {p : Nat → Bool} {C C' : Mem} (h : EqP p C C') {K : List Nat} (hd : (K.all fun f => !p f) = true) : ∀ f ∈ K, EqF C C' f := fun f hf => h f (by
  have := List.all_eq_true.mp hd f hf
  simpa using this)
theorem EqP.txC {p : Nat → Bool} {C C' : Mem} (h : EqP p C C') (hd : (([1001, 4400] : List Nat).all fun f => !p f) = true) : TxC C C' := fun u _ => ⟨by rw [(h.on hd 1001 (by decide)).1], fun j => by rw [(h.on hd 4400 (by decide)).1]⟩
def sP (f : Nat) : Bool := f / 100 == 8 || f == 4000 || f == 502 || f == 3200
def adS1 (C : Mem) (nS : Nat) (k w a b : Int32) : Mem := msI (msR (mNS C nS (nI nS) k w a b) 3200 0 nS (some nS)) 502 0 0 (nI (nS + 1))
def adS2 (M : Mem) (nS : Nat) (k w a b : Int32) : Mem := msI (msI (msI (msI (msI (msI (msI M 5000 0 nS k) 5100 0 nS w) 5200 0 nS a) 5300 0 nS b) 5400 0 nS (-1)) 5500 0 nS (-1)) 1202 0 0 (nI (nS + 1))
section
variable {C M : Mem} {nS : Nat} {k w a b : Int32}
theorem a1_I {f i j : Nat} (hi : i ≠ nS) (hf : f ≠ 502) : mgI (adS1 C nS k w a b) f i j = mgI C f i j := by
  unfold adS1
  rw [gI_o hf]
  show (if i = nS ∧ f / 100 = 8 then _ else if i = nS ∧ f = 4000 then 0 else C.1 f i j) = _
  rw [if_neg (fun z => hi z.1), if_neg (fun z => hi z.1)]
  rfl
theorem a1_L {f i j : Nat} (hi : i ≠ nS) : mgL (adS1 C nS k w a b) f i j = mgL C f i j := by
  show (if i = nS ∧ f / 100 = 8 then _ else C.2.1 f i j) = _
  rw [if_neg (fun z => hi z.1)]
  rfl
theorem a1_R {f i j : Nat} (hi : i ≠ nS) (hf : f ≠ 3200) : mgR (adS1 C nS k w a b) f i j = mgR C f i j := by
  show mgR (msR (mNS C nS (nI nS) k w a b) 3200 0 nS (some nS)) f i j = _
  rw [gR_o hf]
  show (if i = nS ∧ f / 100 = 8 then _ else C.2.2 f i j) = _
  rw [if_neg (fun z => hi z.1)]
  rfl
theorem a1_3200 {s : Nat} : mgR (adS1 C nS k w a b) 3200 0 s = if s = nS then some nS else mgR C 3200 0 s := by
  show mgR (msR (mNS C nS (nI nS) k w a b) 3200 0 nS (some nS)) 3200 0 s = _
  rw [uR_R]
  by_cases e : s = nS
  · rw [if_pos ⟨rfl, rfl, e⟩, if_pos e]
  · rw [if_neg (fun z => e z.2.2), if_neg e]
    show (if 0 = nS ∧ 3200 / 100 = 8 then _ else C.2.2 3200 0 s) = _
    rw [if_neg (fun z => absurd z.2 (by decide))]
    rfl
theorem a1_502 : mgI (adS1 C nS k w a b) 502 0 0 = nI (nS + 1) := by
  unfold adS1
  exact gI_s
theorem a1_P : EqP sP C (adS1 C nS k w a b) := fun f hf => by
  simp only [sP, Bool.or_eq_false_iff, beq_eq_false_iff_ne] at hf
  obtain ⟨⟨⟨h1, h2⟩, h3⟩, h4⟩ := hf
  refine ⟨?_, ?_, ?_⟩
  · unfold adS1
    rw [gI_o h3]
    funext i j
    show (if i = nS ∧ f / 100 = 8 then _ else if i = nS ∧ f = 4000 then 0 else C.1 f i j) = _
    rw [if_neg (fun z => h1 z.2), if_neg (fun z => h2 z.2)]
    rfl
  · funext i j
    show (if i = nS ∧ f / 100 = 8 then _ else C.2.1 f i j) = _
    rw [if_neg (fun z => h1 z.2)]
    rfl
  · show mgR (msR (mNS C nS (nI nS) k w a b) 3200 0 nS (some nS)) f = _
    rw [gR_o h4]
    funext i j
    show (if i = nS ∧ f / 100 = 8 then _ else C.2.2 f i j) = _
    rw [if_neg (fun z => h1 z.2)]
    rfl
theorem a1_n : mgI (adS1 C nS k w a b) 800 nS 0 = nI nS ∧ mgI (adS1 C nS k w a b) 801 nS 0 = k ∧ mgI (adS1 C nS k w a b) 802 nS 0 = w ∧ mgI (adS1 C nS k w a b) 803 nS 0 = a ∧ mgI (adS1 C nS k w a b) 804 nS 0 = b ∧ mgI (adS1 C nS k w a b) 807 nS 0 = -1 ∧ mgI (adS1 C nS k w a b) 808 nS 0 = -1 ∧ mgI (adS1 C nS k w a b) 809 nS 0 = 0 ∧ mgI (adS1 C nS k w a b) 810 nS 0 = 0 ∧ mgI (adS1 C nS k w a b) 811 nS 0 = 0 ∧ mgI (adS1 C nS k w a b) 812 nS 0 = 0 ∧ mgI (adS1 C nS k w a b) 806 nS 0 = 0 := by
  unfold adS1
  rw [gI_o (by decide), gI_o (by decide), gI_o (by decide), gI_o (by decide), gI_o (by decide), gI_o (by decide), gI_o (by decide), gI_o (by decide), gI_o (by decide), gI_o (by decide), gI_o (by decide), gI_o (by decide)]
  refine ⟨if_pos ⟨rfl, by decide⟩, if_pos ⟨rfl, by decide⟩, if_pos ⟨rfl, by decide⟩, if_pos ⟨rfl, by decide⟩, if_pos ⟨rfl, by decide⟩, if_pos ⟨rfl, by decide⟩, if_pos ⟨rfl, by decide⟩, if_pos ⟨rfl, by decide⟩, if_pos ⟨rfl, by decide⟩, if_pos ⟨rfl, by decide⟩, if_pos ⟨rfl, by decide⟩, if_pos ⟨rfl, by decide⟩⟩
theorem a1_nL {f j : Nat} (hf : f / 100 = 8) : mgL (adS1 C nS k w a b) f nS j = 0 := if_pos ⟨rfl, hf⟩
theorem a1_nR : mgR (adS1 C nS k w a b) 813 nS 0 = none := by
  show mgR (msR (mNS C nS (nI nS) k w a b) 3200 0 nS (some nS)) 813 nS 0 = _
  rw [gR_o (by decide)]
  exact if_pos ⟨rfl, by decide⟩
theorem a1_4000 {j : Nat} : mgI (adS1 C nS k w a b) 4000 nS j = 0 := by
  unfold adS1
  rw [gI_o (by decide)]
  show (if nS = nS ∧ 4000 / 100 = 8 then _ else if nS = nS ∧ 4000 = 4000 then 0 else C.1 4000 nS j) = _
  rw [if_neg (fun z => absurd z.2 (by decide)), if_pos ⟨rfl, rfl⟩]
theorem a2_v : (∀ s, mgI (adS2 M nS k w a b) 5000 0 s = if s = nS then k else mgI M 5000 0 s) ∧ (∀ s, mgI (adS2 M nS k w a b) 5100 0 s = if s = nS then w else mgI M 5100 0 s) ∧ (∀ s, mgI (adS2 M nS k w a b) 5200 0 s = if s = nS then a else mgI M 5200 0 s) ∧ (∀ s, mgI (adS2 M nS k w a b) 5300 0 s = if s = nS then b else mgI M 5300 0 s) ∧ (∀ s, mgI (adS2 M nS k w a b) 5400 0 s = if s = nS then -1 else mgI M 5400 0 s) ∧ (∀ s, mgI (adS2 M nS k w a b) 5500 0 s = if s = nS then -1 else mgI M 5500 0 s) ∧ mgI (adS2 M nS k w a b) 1202 0 0 = nI (nS + 1) := by
  unfold adS2
  refine ⟨fun s => ?_, fun s => ?_, fun s => ?_, fun s => ?_, fun s => ?_, fun s => ?_, gI_s⟩ <;> simp only [uI_I, uL_L, uR_R, uI_L, uI_R, uL_I, uL_R, uR_I, uR_L, Nat.reduceEqDiff, false_and, and_false, true_and, and_true, ↓reduceIte]
theorem a2_P : EqOff [5000, 5100, 5200, 5300, 5400, 5500, 1202] M (adS2 M nS k w a b) := ((((((EqOff.refl.I rfl).I rfl).I rfl).I rfl).I rfl).I rfl).I rfl
end
theorem lt_k1 {s n : Nat} (h : s < n + 1) : s < n ∨ s = n := by omega
theorem prv_no {lo : Nat → Int32} {s : Nat} : ∀ {n : Nat}, (∀ l, l < n → lo l ≠ nI s) → prv lo s n = none
  | 0, _ => rfl
  | n + 1, h => by
    show (if lo n = nI s then some n else prv lo s n) = none
    rw [if_neg (h n (by omega))]
    exact prv_no (fun l hl => h l (by omega))
theorem orL_no {lo ln dr : Nat → Int32} {B : Nat → Int64} {s : Nat} : ∀ {n : Nat}, (∀ l, l < n → lo l ≠ nI s) → orL lo ln dr B s n = 0
  | 0, _ => rfl
  | n + 1, h => by
    rw [orL_n (fun z => h n (by omega) z.1)]
    exact orL_no (fun l hl => h l (by omega))
set_option maxHeartbeats 2000000 in
theorem addS_q {C M : Mem} {nS nL : Nat} (h : Sim C M nS nL) (hn : nS < 64) {k : Nat} (hk : k ≤ 5) {a b : Int32} (hv : k = 1 → ∃ x, x ≤ 999 ∧ b = nI x) : Sim (adS1 C nS (nI k) (mgI M 1201 0 0) a b) (adS2 M nS (nI k) (mgI M 1201 0 0) a b) (nS + 1) nL := by
  have hb : nS ≤ 64 ∧ nL ≤ 200 := sm_b1 h
  have hC : EqP sP C (adS1 C nS (nI k) (mgI M 1201 0 0) a b) := a1_P
  have hM : EqOff [5000, 5100, 5200, 5300, 5400, 5500, 1202] M (adS2 M nS (nI k) (mgI M 1201 0 0) a b) := a2_P
  have hCt := hC.txC rfl
  have hMt := hM.txM rfl
  obtain ⟨v0, v1, v2, v3, v4, v5, v6⟩ := a2_v (M := M) (nS := nS) (k := nI k) (w := mgI M 1201 0 0) (a := a) (b := b)
  obtain ⟨n0, n1, n2, n3, n4, n7, n8, n9, n10, n11, n12, n6⟩ := a1_n (C := C) (nS := nS) (k := nI k) (w := mgI M 1201 0 0) (a := a) (b := b)
  have oI : ∀ f i j, i ≠ nS → f ≠ 502 → mgI (adS1 C nS (nI k) (mgI M 1201 0 0) a b) f i j = mgI C f i j := fun f i j hi hf => a1_I hi hf
  have oL : ∀ f i j, i ≠ nS → mgL (adS1 C nS (nI k) (mgI M 1201 0 0) a b) f i j = mgL C f i j := fun f i j hi => a1_L hi
  have oR : ∀ f i j, i ≠ nS → f ≠ 3200 → mgR (adS1 C nS (nI k) (mgI M 1201 0 0) a b) f i j = mgR C f i j := fun f i j hi hf => a1_R hi hf
  have c502 : mgI (adS1 C nS (nI k) (mgI M 1201 0 0) a b) 502 0 0 = nI (nS + 1) := a1_502
  have c3200 : ∀ s, mgR (adS1 C nS (nI k) (mgI M 1201 0 0) a b) 3200 0 s = if s = nS then some nS else mgR C 3200 0 s := fun s => a1_3200
  have nL0 : ∀ f j, f / 100 = 8 → mgL (adS1 C nS (nI k) (mgI M 1201 0 0) a b) f nS j = 0 := fun f j hf => a1_nL hf
  have nR : mgR (adS1 C nS (nI k) (mgI M 1201 0 0) a b) 813 nS 0 = none := a1_nR
  have n4k : ∀ j, mgI (adS1 C nS (nI k) (mgI M 1201 0 0) a b) 4000 nS j = 0 := fun j => a1_4000
  generalize adS1 C nS (nI k) (mgI M 1201 0 0) a b = C' at *
  generalize adS2 M nS (nI k) (mgI M 1201 0 0) a b = M' at *
  have hlo : ∀ l, l < nL → ∀ s, mgI M 5900 0 l = nI s → s < 64 → s < nS := fun l hl s e hs => by
    obtain ⟨x, y, h1, h2, h3, h4⟩ := sm_vL h l hl
    rw [h3] at e
    have := (nI_eq (by omega) (by omega)).mp e
    omega
  have k5 : ∀ f, ([5600, 5700, 5800, 5900, 6000, 6100, 6200, 6300, 8700, 1201] : List Nat).contains f = true → mgI M' f = mgI M f := fun f hf => (hM.on (K := [5600, 5700, 5800, 5900, 6000, 6100, 6200, 6300, 8700, 1201]) rfl f (by simpa using hf)).1
  have z0 := sm_z1 h nS (Nat.le_refl _)
  have b1 : f_b1 C' M' (nS + 1) nL := ⟨by omega, hb.2⟩
  have c1 : f_c1 C' M' (nS + 1) nL := ⟨c502, by rw [(hC.on (K := [503]) rfl 503 (by decide)).1]; exact (sm_c1 h).2⟩
  have c2 : f_c2 C' M' (nS + 1) nL := ⟨v6, by rw [(hM.on (K := [1212]) rfl 1212 (by decide)).1]; exact (sm_c2 h).2⟩
  have r1 : f_r1 C' M' (nS + 1) nL := fun s hs => by
    rw [c3200]
    rcases lt_k1 hs with hs | rfl
    · rw [if_neg (by omega)]; exact sm_r1 h s hs
    · rw [if_pos rfl]
  have s0 : f_s0 C' M' (nS + 1) nL := fun s hs => by
    rcases lt_k1 hs with hs | rfl
    · rw [oI _ _ _ (by omega) (by decide)]; exact sm_s0 h s hs
    · exact n0
  have sK : f_sK C' M' (nS + 1) nL := fun s hs => by
    rw [v0]
    rcases lt_k1 hs with hs | rfl
    · rw [oI _ _ _ (by omega) (by decide), if_neg (by omega)]; exact sm_sK h s hs
    · rw [n1, if_pos rfl]
  have sM : f_sM C' M' (nS + 1) nL := fun s hs => by
    rw [v1]
    rcases lt_k1 hs with hs | rfl
    · rw [oI _ _ _ (by omega) (by decide), if_neg (by omega)]; exact sm_sM h s hs
    · rw [n2, if_pos rfl]
  have sA : f_sA C' M' (nS + 1) nL := fun s hs => by
    rw [v2]
    rcases lt_k1 hs with hs | rfl
    · rw [oI _ _ _ (by omega) (by decide), if_neg (by omega)]; exact sm_sA h s hs
    · rw [n3, if_pos rfl]
  have sB : f_sB C' M' (nS + 1) nL := fun s hs => by
    rw [v3]
    rcases lt_k1 hs with hs | rfl
    · rw [oI _ _ _ (by omega) (by decide), if_neg (by omega)]; exact sm_sB h s hs
    · rw [n4, if_pos rfl]
  have sI : f_sI C' M' (nS + 1) nL := fun s hs => by
    rw [v4]
    rcases lt_k1 hs with hs | rfl
    · rw [oI _ _ _ (by omega) (by decide), if_neg (by omega)]; exact sm_sI h s hs
    · rw [n7, if_pos rfl]
  have sW : f_sW C' M' (nS + 1) nL := fun s hs => by
    rw [v5]
    rcases lt_k1 hs with hs | rfl
    · rw [oI _ _ _ (by omega) (by decide), if_neg (by omega)]; exact sm_sW h s hs
    · rw [n8, if_pos rfl]
  have sP : f_sP C' M' (nS + 1) nL := fun s hs => by
    rw [k5 5600 rfl]
    rcases lt_k1 hs with hs | rfl
    · rw [oI _ _ _ (by omega) (by decide)]; exact sm_sP h s hs
    · rw [n9]; exact z0.1.symm
  have sH : f_sH C' M' (nS + 1) nL := fun s hs => by
    rw [k5 5700 rfl]
    rcases lt_k1 hs with hs | rfl
    · rw [oI _ _ _ (by omega) (by decide)]; exact sm_sH h s hs
    · rw [n10]; exact z0.2.1.symm
  have sT : f_sT C' M' (nS + 1) nL := fun s hs => by
    rw [k5 5800 rfl]
    rcases lt_k1 hs with hs | rfl
    · rw [oI _ _ _ (by omega) (by decide)]; exact sm_sT h s hs
    · rw [n11]; exact z0.2.2.symm
  have vK : f_vK C' M' (nS + 1) nL := fun s hs => by
    rw [v0]
    rcases lt_k1 hs with hs | rfl
    · rw [if_neg (by omega)]; exact sm_vK h s hs
    · rw [if_pos rfl]; exact ⟨k, hk, rfl⟩
  have vB : f_vB C' M' (nS + 1) nL := fun s hs => by
    rw [v0, v3]
    rcases lt_k1 hs with hs | rfl
    · rw [if_neg (by omega), if_neg (by omega)]; exact sm_vB h s hs
    · rw [if_pos rfl, if_pos rfl]; exact fun e => hv ((nI_eq (by omega) (by omega)).mp e)
  have vM : f_vM C' M' (nS + 1) nL := fun s hs => by
    rw [v1, k5 1201 rfl]
    rcases lt_k1 hs with hs | rfl
    · rw [if_neg (by omega)]; exact sm_vM h s hs
    · rw [if_pos rfl]; exact ⟨_, Nat.le_refl _, (sm_n1 h).1⟩
  have vT : f_vT C' M' (nS + 1) nL := fun s hs => by
    rw [v4, v5, k5 5600 rfl, k5 1201 rfl]
    rcases lt_k1 hs with hs | rfl
    · rw [if_neg (by omega), if_neg (by omega)]; exact sm_vT h s hs
    · rw [if_pos rfl, if_pos rfl]; exact Or.inl ⟨rfl, rfl⟩
  have tB : f_tB C' M' (nS + 1) nL := fun t ht => by
    rw [(hC.on (K := [505]) rfl 505 (by decide)).2.1, sm_tB h t ht, v4]
    by_cases e : t = nS
    · rw [if_pos e, e, decide_eq_false (by omega), decide_eq_false (fun z => z.2 (by decide))]
    · rw [if_neg e, decide_eq_decide]
      constructor <;> exact fun z => ⟨by omega, z.2⟩
  have vJ : f_vJ C' M' (nS + 1) nL := fun s hs => by
    rw [k5 5800 rfl]
    rcases lt_k1 hs with hs | rfl
    · exact sm_vJ h s hs
    · exact Or.inl z0.2.2
  have vH : f_vH C' M' (nS + 1) nL := fun s hs => by
    rw [k5 5700 rfl]
    rcases lt_k1 hs with hs | rfl
    · exact sm_vH h s hs
    · exact ⟨0, by omega, z0.2.1⟩
  have vL : f_vL C' M' (nS + 1) nL := fun l hl => by
    rw [k5 5900 rfl, k5 6000 rfl]
    obtain ⟨x, y, h1, h2, h3, h4⟩ := sm_vL h l hl
    exact ⟨x, y, h1, by omega, h3, h4⟩
  have vD : f_vD C' M' (nS + 1) nL := fun l s hl hs => by
    rw [k5 5900 rfl, k5 6300 rfl, v0]
    rcases lt_k1 hs with hs | rfl
    · rw [if_neg (by omega)]; exact sm_vD h l s hl hs
    · exact fun e => absurd (hlo l hl s e hn) (by omega)
  have hno : ∀ l, l < nL → mgI M 5900 0 l ≠ nI nS := fun l hl e => absurd (hlo l hl nS e hn) (by omega)
  have h1 : f_h1 C' M' (nS + 1) nL := fun s hs => by
    rw [k5 5900 rfl]
    rcases lt_k1 hs with hs | rfl
    · rw [oR _ _ _ (by omega) (by decide)]; exact sm_h1 h s hs
    · rw [nR, prv_no hno]
  have h2 : f_h2 C' M' (nS + 1) nL := fun l s hl hs => by
    rw [k5 5900 rfl, (hC.on (K := [402]) rfl 402 (by decide)).2.2]
    rcases lt_k1 hs with hs | rfl
    · exact sm_h2 h l s hl hs
    · exact fun e => absurd e (hno l hl)
  have h3 : f_h3 C' M' (nS + 1) nL := fun s hs => by
    rw [k5 5900 rfl]
    rcases lt_k1 hs with hs | rfl
    · rw [oI _ _ _ (by omega) (by decide)]; exact sm_h3 h s hs
    · rw [n12, ctU_no (fun l hl => decide_eq_false (hno l hl))]; rfl
  have h4 : f_h4 C' M' (nS + 1) nL := fun s o hs ho => by
    rw [k5 5900 rfl, k5 6000 rfl]
    rcases lt_k1 hs with hs | rfl
    · rw [oL _ _ _ (by omega)]; exact sm_h4 h s o hs ho
    · rw [nL0 814 0 (by decide), hB_0]
      exact ⟨fun e => absurd e (by decide), fun ⟨l, hl, e, _⟩ => absurd e (hno l hl)⟩
  have hB815 : ∀ s, s < nS → mgL C' 815 s 0 = mgL C 815 s 0 := fun s hs => oL _ _ _ (by omega)
  have h5 : f_h5 C' M' (nS + 1) nL := fun s hs => by
    rw [k5 5900 rfl, k5 6000 rfl, k5 6300 rfl]
    rcases lt_k1 hs with hs | rfl
    · rw [hB815 s hs, sm_h5 h s hs]
      refine orL_cong (fun l hl e => ?_)
      obtain ⟨x, y, h1, h2, h3, h4⟩ := sm_vL h l hl
      rw [h4, nI_clamp (by omega)]
      exact (hB815 y (by omega)).symm
    · rw [nL0 815 0 (by decide), orL_no hno]
  have z1 : f_z1 C' M' (nS + 1) nL := fun s hs => by
    rw [k5 5600 rfl, k5 5700 rfl, k5 5800 rfl]
    exact sm_z1 h s (by omega)
  have z3 : f_z3 C' M' (nS + 1) nL := fun j hj => by
    rw [k5 8700 rfl]
    exact sm_z3 h j (by omega)
  have e1 : f_e1 C' M' (nS + 1) nL := fun s n hs hn' => by
    rw [k5 8700 rfl]
    rcases lt_k1 hs with hs | rfl
    · rw [oI _ _ _ (by omega) (by decide)]; exact sm_e1 h s n hs hn'
    · rw [n4k]; exact (sm_z3 h _ (by omega)).symm
  have e2 : f_e2 C' M' (nS + 1) nL := fun s n hs hn' => by
    rw [k5 8700 rfl]
    rcases lt_k1 hs with hs | rfl
    · exact sm_e2 h s n hs hn'
    · exact ⟨0, by omega, sm_z3 h _ (by omega)⟩
  have e3 : f_e3 C' M' (nS + 1) nL := fun s hs => by
    rw [k5 8700 rfl]
    rcases lt_k1 hs with hs | rfl
    · rw [oI _ _ _ (by omega) (by decide)]; exact sm_e3 h s hs
    · refine ⟨0, by omega, n6, fun n => ?_⟩
      rw [Nat.zero_testBit, decide_eq_false]
      exact fun z => z.2 (sm_z3 h _ (by omega))
  have o6 : f_o6 C' M' (nS + 1) nL := fun c hc => by
    rw [(hM.on (K := [1246]) rfl 1246 (by decide)).1] at hc
    rw [(hM.on (K := [8400]) rfl 8400 (by decide)).1]
    obtain ⟨s, hs, e⟩ := sm_o6 h c hc
    exact ⟨s, by omega, e⟩
  have p1 : f_p1 C' M' (nS + 1) nL := fun q hq => by
    rw [(hM.on (K := [8900]) rfl 8900 (by decide)).1, (hM.on (K := [9000]) rfl 9000 (by decide)).1, (hC.on (K := [3500]) rfl 3500 (by decide)).1, (hC.on (K := [3600]) rfl 3600 (by decide)).1, (hC.on (K := [3700]) rfl 3700 (by decide)).1]
    rcases sm_p1 h q hq with w | ⟨s, hs, w⟩ | w
    · exact Or.inl w
    · exact Or.inr (Or.inl ⟨s, by omega, w⟩)
    · exact Or.inr (Or.inr w)
  exact ⟨b1,
    c1,
    c2,
    r1,
    fr_r2 (C' := C') (M' := M') (nS := nS) (nL := nL) (hC.on rfl)  (sm_r2 h),
    s0,
    sK,
    sM,
    sA,
    sB,
    sI,
    sW,
    sP,
    sH,
    sT,
    vK,
    vB,
    fr_n1 (C' := C') (M' := M') (nS := nS) (nL := nL)  (hM.on rfl) (sm_n1 h),
    fr_n2 (C' := C') (M' := M') (nS := nS) (nL := nL) (hC.on rfl) (hM.on rfl) (sm_n2 h),
    vM,
    vT,
    tB,
    vJ,
    vH,
    fr_l0 (C' := C') (M' := M') (nS := nS) (nL := nL) (hC.on rfl) (hM.on rfl) (sm_l0 h),
    fr_l1 (C' := C') (M' := M') (nS := nS) (nL := nL) (hC.on rfl) (hM.on rfl) (sm_l1 h),
    fr_l3 (C' := C') (M' := M') (nS := nS) (nL := nL) (hC.on rfl) (hM.on rfl) (sm_l3 h),
    fr_l4 (C' := C') (M' := M') (nS := nS) (nL := nL) (hC.on rfl) (hM.on rfl) (sm_l4 h),
    fr_l5 (C' := C') (M' := M') (nS := nS) (nL := nL) (hC.on rfl) (hM.on rfl) (sm_l5 h),
    vL,
    fr_vW (C' := C') (M' := M') (nS := nS) (nL := nL)  (hM.on rfl) (sm_vW h),
    fr_vE (C' := C') (M' := M') (nS := nS) (nL := nL)  (hM.on rfl) (sm_vE h),
    vD,
    h1,
    h2,
    h3,
    h4,
    h5,
    z1,
    fr_z2 (C' := C') (M' := M') (nS := nS) (nL := nL)  (hM.on rfl) (sm_z2 h),
    z3,
    e1,
    e2,
    e3,
    fr_o1 (C' := C') (M' := M') (nS := nS) (nL := nL)  (hM.on rfl) (sm_o1 h),
    fr_o2 (C' := C') (M' := M') (nS := nS) (nL := nL) (hC.on rfl) (hM.on rfl) (sm_o2 h),
    fr_o3 (C' := C') (M' := M') (nS := nS) (nL := nL) (hC.on rfl) (hM.on rfl) (sm_o3 h),
    fr_o4 (C' := C') (M' := M') (nS := nS) (nL := nL) (hC.on rfl) (hM.on rfl) (sm_o4 h),
    fr_o5 (C' := C') (M' := M') (nS := nS) (nL := nL) (hC.on rfl) (hM.on rfl) (sm_o5 h),
    o6,
    fr_g1 (C' := C') (M' := M') (nS := nS) (nL := nL) (hC.on rfl) (hM.on rfl) (sm_g1 h),
    fr_d1 (C' := C') (M' := M') (nS := nS) (nL := nL) (hC.on rfl) (hM.on rfl) (sm_d1 h),
    fr_t1 (C' := C') (M' := M') (nS := nS) (nL := nL) (hC.on rfl) (hM.on rfl) (sm_t1 h),
    fr_x1 hCt hMt (sm_x1 h),
    fr_a1 (C' := C') (M' := M') (nS := nS) (nL := nL) (hC.on rfl) (hM.on rfl) (sm_a1 h),
    fr_a2 (C' := C') (M' := M') (nS := nS) (nL := nL) (hC.on rfl) (hM.on rfl) (sm_a2 h),
    p1,
    fr_p2 (C' := C') (M' := M') (nS := nS) (nL := nL) (hC.on rfl) (hM.on rfl) (sm_p2 h)⟩
