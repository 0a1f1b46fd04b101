/-! one more line -/
def lP (f : Nat) : Bool := f / 100 == 4 || f == 503 || f == 3300 || f == 812 || f == 813 || f == 814 || f == 815
def adL1 (C : Mem) (nL s : Nat) (st on we se : Int32) (nx : Option Nat) (c : Int32) (bs : Int64) : Mem := msL (msI (msR (msR (mNL C nL st on we se nx) 3300 0 nL (some nL)) 813 s 0 (some nL)) 812 s 0 c) 814 s 0 bs
def adL2 (M : Mem) (nL : Nat) (st on we se : Int32) : Mem := msI (msI (msI (msI (msI M 5900 0 nL st) 6000 0 nL on) 6100 0 nL we) 6200 0 nL se) 1212 0 0 (nI (nL + 1))
section
variable {C M : Mem} {nL s : Nat} {st on we se c : Int32} {nx : Option Nat} {bs : Int64}
theorem b1_I {f i j : Nat} (hf : f / 100 ≠ 4) (hf2 : f ≠ 812) : mgI (adL1 C nL s st on we se nx c bs) f i j = mgI C f i j := by
  unfold adL1
  rw [gI_L, gI_o hf2]
  show (if i = nL ∧ f / 100 = 4 then _ else C.1 f i j) = _
  rw [if_neg (fun z => hf z.2)]
  rfl
theorem b1_Io {f i j : Nat} (hi : i ≠ nL) (hf2 : f ≠ 812) : mgI (adL1 C nL s st on we se nx c bs) f i j = mgI C f i j := by
  unfold adL1
  rw [gI_L, gI_o hf2]
  show (if i = nL ∧ f / 100 = 4 then _ else C.1 f i j) = _
  rw [if_neg (fun z => hi z.1)]
  rfl
theorem b1_812 {i : Nat} : mgI (adL1 C nL s st on we se nx c bs) 812 i 0 = if i = s then c else mgI C 812 i 0 := by
  unfold adL1
  rw [gI_L, uI_I]
  by_cases e : i = s
  · rw [if_pos ⟨rfl, e, rfl⟩, if_pos e]
  · rw [if_neg (fun z => e z.2.1), if_neg e]
    show (if i = nL ∧ 812 / 100 = 4 then _ else C.1 812 i 0) = _
    rw [if_neg (fun z => absurd z.2 (by decide))]
    rfl
theorem b1_814 {i : Nat} : mgL (adL1 C nL s st on we se nx c bs) 814 i 0 = if i = s then bs else mgL C 814 i 0 := by
  unfold adL1
  rw [uL_L]
  by_cases e : i = s
  · rw [if_pos ⟨rfl, e, rfl⟩, if_pos e]
  · rw [if_neg (fun z => e z.2.1), if_neg e]; rfl
theorem b1_813 {i : Nat} : mgR (adL1 C nL s st on we se nx c bs) 813 i 0 = if i = s then some nL else mgR C 813 i 0 := by
  show mgR (msR (msR (mNL C nL st on we se nx) 3300 0 nL (some nL)) 813 s 0 (some nL)) 813 i 0 = _
  rw [uR_R]
  by_cases e : i = s
  · rw [if_pos ⟨rfl, e, rfl⟩, if_pos e]
  · rw [if_neg (fun z => e z.2.1), if_neg e, gR_o (by decide)]
    show (if i = nL ∧ 813 = 402 then _ else C.2.2 813 i 0) = _
    rw [if_neg (fun z => absurd z.2 (by decide))]
    rfl
theorem b1_3300 {j : Nat} : mgR (adL1 C nL s st on we se nx c bs) 3300 0 j = if j = nL then some nL else mgR C 3300 0 j := by
  show mgR (msR (msR (mNL C nL st on we se nx) 3300 0 nL (some nL)) 813 s 0 (some nL)) 3300 0 j = _
  rw [gR_o (by decide), uR_R]
  by_cases e : j = nL
  · rw [if_pos ⟨rfl, rfl, e⟩, if_pos e]
  · rw [if_neg (fun z => e z.2.2), if_neg e]
    show (if 0 = nL ∧ 3300 = 402 then _ else C.2.2 3300 0 j) = _
    rw [if_neg (fun z => absurd z.2 (by decide))]
    rfl
theorem b1_402 {i : Nat} : mgR (adL1 C nL s st on we se nx c bs) 402 i 0 = if i = nL then nx else mgR C 402 i 0 := by
  show mgR (msR (msR (mNL C nL st on we se nx) 3300 0 nL (some nL)) 813 s 0 (some nL)) 402 i 0 = _
  rw [gR_o (by decide), gR_o (by decide)]
  show (if i = nL ∧ 402 = 402 then _ else C.2.2 402 i 0) = _
  by_cases e : i = nL
  · rw [if_pos ⟨e, rfl⟩, if_pos e]
  · rw [if_neg (fun z => e z.1), if_neg e]; rfl
theorem b1_L {f i j : Nat} (hf : f ≠ 814) : mgL (adL1 C nL s st on we se nx c bs) f i j = mgL C f i j := by
  unfold adL1
  rw [gL_o hf]; rfl
theorem b1_n : mgI (adL1 C nL s st on we se nx c bs) 400 nL 0 = st ∧ mgI (adL1 C nL s st on we se nx c bs) 401 nL 0 = on ∧ mgI (adL1 C nL s st on we se nx c bs) 403 nL 0 = we ∧ mgI (adL1 C nL s st on we se nx c bs) 404 nL 0 = se ∧ mgI (adL1 C nL s st on we se nx c bs) 405 nL 0 = 0 := by
  unfold adL1
  simp only [gI_L]
  rw [gI_o (by decide), gI_o (by decide), gI_o (by decide), gI_o (by decide), gI_o (by decide)]
  exact ⟨if_pos ⟨rfl, by decide⟩, if_pos ⟨rfl, by decide⟩, if_pos ⟨rfl, by decide⟩, if_pos ⟨rfl, by decide⟩, if_pos ⟨rfl, by decide⟩⟩
theorem b1_P : EqP lP C (adL1 C nL s st on we se nx c bs) := fun f hf => by
  simp only [lP, Bool.or_eq_false_iff, beq_eq_false_iff_ne] at hf
  obtain ⟨⟨⟨⟨⟨⟨h1, h2⟩, h3⟩, h4⟩, h5⟩, h6⟩, h7⟩ := hf
  refine ⟨?_, ?_, ?_⟩
  · funext i j; exact b1_I h1 h4
  · funext i j; exact b1_L h6
  · show mgR (msR (msR (mNL C nL st on we se nx) 3300 0 nL (some nL)) 813 s 0 (some nL)) f = _
    rw [gR_o h5, gR_o h3]
    funext i j
    show (if i = nL ∧ f = 402 then _ else C.2.2 f i j) = _
    rw [if_neg (fun z => h1 (by rw [z.2]))]
    rfl
theorem b2_v : (∀ l, mgI (adL2 M nL st on we se) 5900 0 l = if l = nL then st else mgI M 5900 0 l) ∧ (∀ l, mgI (adL2 M nL st on we se) 6000 0 l = if l = nL then on else mgI M 6000 0 l) ∧ (∀ l, mgI (adL2 M nL st on we se) 6100 0 l = if l = nL then we else mgI M 6100 0 l) ∧ (∀ l, mgI (adL2 M nL st on we se) 6200 0 l = if l = nL then se else mgI M 6200 0 l) ∧ mgI (adL2 M nL st on we se) 1212 0 0 = nI (nL + 1) := by
  unfold adL2
  refine ⟨fun s => ?_, fun s => ?_, fun s => ?_, fun s => ?_, gI_s⟩ <;> simp only [uI_I, uL_L, uR_R, uI_L, uI_R, uL_I, uL_R, uR_I, uR_L, Nat.reduceEqDiff, false_and, and_false, true_and, and_true, ↓reduceIte]
theorem b2_P : EqOff [5900, 6000, 6100, 6200, 1212] M (adL2 M nL st on we se) := ((((EqOff.refl.I rfl).I rfl).I rfl).I rfl).I rfl
end
theorem EqP.then {p : Nat → Bool} {A B C : Mem} (h : EqP p A B) {L : List Nat} (k : EqOff L B C) (hd : (L.all p) = true) : EqP p A C := fun f hf => by
  have hk := k f (by
    cases hc : L.contains f
    · rfl
    · have := List.all_eq_true.mp hd f (by simpa using hc)
      rw [hf] at this
      exact absurd this (by decide))
  have h0 := h f hf
  exact ⟨hk.1.trans h0.1, hk.2.1.trans h0.2.1, hk.2.2.trans h0.2.2⟩
theorem prv_cong {lo lo' : Nat → Int32} {s : Nat} : ∀ {n : Nat}, (∀ l, l < n → lo l = lo' l) → prv lo s n = prv lo' s n
  | 0, _ => rfl
  | n + 1, h => by
    show (if lo n = nI s then some n else prv lo s n) = (if lo' n = nI s then some n else prv lo' s n)
    rw [h n (by omega), prv_cong (fun l hl => h l (by omega))]
theorem orL_lo {lo ln dr lo' ln' : Nat → Int32} {B : Nat → Int64} {s : Nat} : ∀ {n : Nat}, (∀ l, l < n → lo l = lo' l ∧ ln l = ln' l) → orL lo ln dr B s n = orL lo' ln' dr B s n
  | 0, _ => rfl
  | n + 1, h => by
    show (if lo n = nI s ∧ dr n = 0 then orL lo ln dr B s n ||| (B (ln n).toNatClampNeg ||| fX11_bit (ln n)) else orL lo ln dr B s n) = (if lo' n = nI s ∧ dr n = 0 then orL lo' ln' dr B s n ||| (B (ln' n).toNatClampNeg ||| fX11_bit (ln' n)) else orL lo' ln' dr B s n)
    rw [(h n (by omega)).1, (h n (by omega)).2, orL_lo (fun l hl => h l (by omega))]
set_option maxHeartbeats 4000000 in
theorem addL_q {C M : Mem} {nS nL : Nat} (h : Sim C M nS nL) (hl : nL < 200) {s o w e : Nat} (hs : s < nS) (ho : o < s) (hw1 : 1 ≤ w) (hw2 : w ≤ 99) (he : e ≤ 2) : ∃ C', fX5_addLine nS nL (some s) (nI o) (nI w) (nI e) C = some ((nI nL, nS, nL + 1), C') ∧ Sim C' (adL2 M nL (nI s) (nI o) (nI w) (nI e)) nS (nL + 1) ∧ EqP lP C C' := by
  have hb : nS ≤ 64 ∧ nL ≤ 200 := sm_b1 h
  have cnt := sm_h3 h s hs
  have hpv := sm_h1 h s hs
  have s800 := sm_s0 h s hs
  unfold fX5_addLine
  simp only [oc_SU, nm_u]
  have e503 : ∀ st on we se nx, mgI (mNL C nL st on we se nx) 503 0 0 = nI nL := fun st on we se nx => by
    show (if 0 = nL ∧ 503 / 100 = 4 then _ else C.1 503 0 0) = _
    rw [if_neg (fun z => absurd z.2 (by decide))]
    exact (sm_c1 h).2
  rw [e503, ix_n hl (by omega), nI_clamp (by omega), s800, hpv]
  have e812 : ∀ st on we se nx x, mgI (msR (msR (mNL C nL st on we se nx) 3300 0 nL (some nL)) 813 s 0 x) 812 s 0 = mgI C 812 s 0 := fun st on we se nx x => by
    rw [gI_R, gI_R]
    show (if s = nL ∧ 812 / 100 = 4 then _ else C.1 812 s 0) = _
    rw [if_neg (fun z => absurd z.2 (by decide))]
    rfl
  rw [e812, cnt, nI_1]
  have e814 : ∀ st on we se nx x v, mgL (msI (msR (msR (mNL C nL st on we se nx) 3300 0 nL (some nL)) 813 s 0 x) 812 s 0 v) 814 s 0 = mgL C 814 s 0 := fun st on we se nx x v => by
    rw [gL_I, gL_R, gL_R]; rfl
  rw [e814]
  have hfold : ∀ st on we se nx c bs, msL (msI (msR (msR (mNL C nL st on we se nx) 3300 0 nL (some nL)) 813 s 0 (some nL)) 812 s 0 c) 814 s 0 bs = adL1 C nL s st on we se nx c bs := fun st on we se nx c bs => Eq.refl _
  rw [hfold]
  have oI : ∀ f i j, f / 100 ≠ 4 → f ≠ 812 → mgI (adL1 C nL s (nI s) (nI o) (nI w) (nI e) (prv (mgI M 5900 0) s nL) (nI (ctU (fun l => decide (mgI M 5900 0 l = nI s)) nL + 1)) (mgL C 814 s 0 ||| fX11_bit (nI o))) f i j = mgI C f i j := fun f i j h1 h2 => b1_I h1 h2
  have oIo : ∀ f i j, i ≠ nL → f ≠ 812 → mgI (adL1 C nL s (nI s) (nI o) (nI w) (nI e) (prv (mgI M 5900 0) s nL) (nI (ctU (fun l => decide (mgI M 5900 0 l = nI s)) nL + 1)) (mgL C 814 s 0 ||| fX11_bit (nI o))) f i j = mgI C f i j := fun f i j h1 h2 => b1_Io h1 h2
  have c812 : ∀ i, mgI (adL1 C nL s (nI s) (nI o) (nI w) (nI e) (prv (mgI M 5900 0) s nL) (nI (ctU (fun l => decide (mgI M 5900 0 l = nI s)) nL + 1)) (mgL C 814 s 0 ||| fX11_bit (nI o))) 812 i 0 = _ := fun i => b1_812
  have c813 : ∀ i, mgR (adL1 C nL s (nI s) (nI o) (nI w) (nI e) (prv (mgI M 5900 0) s nL) (nI (ctU (fun l => decide (mgI M 5900 0 l = nI s)) nL + 1)) (mgL C 814 s 0 ||| fX11_bit (nI o))) 813 i 0 = _ := fun i => b1_813
  have c814 : ∀ i, mgL (adL1 C nL s (nI s) (nI o) (nI w) (nI e) (prv (mgI M 5900 0) s nL) (nI (ctU (fun l => decide (mgI M 5900 0 l = nI s)) nL + 1)) (mgL C 814 s 0 ||| fX11_bit (nI o))) 814 i 0 = _ := fun i => b1_814
  have c3300 : ∀ j, mgR (adL1 C nL s (nI s) (nI o) (nI w) (nI e) (prv (mgI M 5900 0) s nL) (nI (ctU (fun l => decide (mgI M 5900 0 l = nI s)) nL + 1)) (mgL C 814 s 0 ||| fX11_bit (nI o))) 3300 0 j = _ := fun i => b1_3300
  have c402 : ∀ i, mgR (adL1 C nL s (nI s) (nI o) (nI w) (nI e) (prv (mgI M 5900 0) s nL) (nI (ctU (fun l => decide (mgI M 5900 0 l = nI s)) nL + 1)) (mgL C 814 s 0 ||| fX11_bit (nI o))) 402 i 0 = _ := fun i => b1_402
  have oL : ∀ f i j, f ≠ 814 → mgL (adL1 C nL s (nI s) (nI o) (nI w) (nI e) (prv (mgI M 5900 0) s nL) (nI (ctU (fun l => decide (mgI M 5900 0 l = nI s)) nL + 1)) (mgL C 814 s 0 ||| fX11_bit (nI o))) f i j = mgL C f i j := fun f i j h1 => b1_L h1
  obtain ⟨n0, n1, n3, n4, n5⟩ := b1_n (C := C) (nL := nL) (s := s) (st := nI s) (on := nI o) (we := nI w) (se := nI e) (nx := prv (mgI M 5900 0) s nL) (c := nI (ctU (fun l => decide (mgI M 5900 0 l = nI s)) nL + 1)) (bs := mgL C 814 s 0 ||| fX11_bit (nI o))
  have hP : EqP lP C (adL1 C nL s (nI s) (nI o) (nI w) (nI e) (prv (mgI M 5900 0) s nL) (nI (ctU (fun l => decide (mgI M 5900 0 l = nI s)) nL + 1)) (mgL C 814 s 0 ||| fX11_bit (nI o))) := b1_P
  generalize adL1 C nL s (nI s) (nI o) (nI w) (nI e) (prv (mgI M 5900 0) s nL) (nI (ctU (fun l => decide (mgI M 5900 0 l = nI s)) nL + 1)) (mgL C 814 s 0 ||| fX11_bit (nI o)) = C1 at *
  have hM : EqOff [5900, 6000, 6100, 6200, 1212] M (adL2 M nL (nI s) (nI o) (nI w) (nI e)) := b2_P
  obtain ⟨v0, v1, v2, v3, v4⟩ := b2_v (M := M) (nL := nL) (st := nI s) (on := nI o) (we := nI w) (se := nI e)
  generalize adL2 M nL (nI s) (nI o) (nI w) (nI e) = M' at *
  have k5 : ∀ f, ([5000, 6300] : List Nat).contains f = true → mgI M' f = mgI M f := fun f hf => (hM.on (K := [5000, 6300]) rfl f (by simpa using hf)).1
  have z2o := sm_z2 h
  have z20 : mgI M 6300 0 nL = 0 := z2o nL (Nat.le_refl _)
  have clo : ∀ l, l < nL → mgI M' 5900 0 l = mgI M 5900 0 l := fun l h => by rw [v0, if_neg (by omega)]
  have cln : ∀ l, l < nL → mgI M' 6000 0 l = mgI M 6000 0 l := fun l h => by rw [v1, if_neg (by omega)]
  have vnL : mgI M' 5900 0 nL = nI s := by rw [v0, if_pos rfl]
  have vnO : mgI M' 6000 0 nL = nI o := by rw [v1, if_pos rfl]
  have d1 : f_c1 C M nS nL := sm_c1 h
  have r1 : f_r1 C1 M' nS (nL + 1) := fun t ht => by rw [(hP.on (K := [3200]) rfl 3200 (by decide)).2.2]; exact sm_r1 h t ht
  have r2 : f_r2 C1 M' nS (nL + 1) := fun l hl' => by
    rw [c3300]
    rcases lt_k1 hl' with hl' | rfl
    · rw [if_neg (by omega)]; exact sm_r2 h l hl'
    · rw [if_pos rfl]
  have l0 : f_l0 C1 M' nS (nL + 1) := fun l hl' => by
    rw [v0]
    rcases lt_k1 hl' with hl' | rfl
    · rw [if_neg (by omega), oIo _ _ _ (by omega) (by decide)]; exact sm_l0 h l hl'
    · rw [if_pos rfl, n0]
  have l1 : f_l1 C1 M' nS (nL + 1) := fun l hl' => by
    rw [v1]
    rcases lt_k1 hl' with hl' | rfl
    · rw [if_neg (by omega), oIo _ _ _ (by omega) (by decide)]; exact sm_l1 h l hl'
    · rw [if_pos rfl, n1]
  have l3 : f_l3 C1 M' nS (nL + 1) := fun l hl' => by
    rw [v2]
    rcases lt_k1 hl' with hl' | rfl
    · rw [if_neg (by omega), oIo _ _ _ (by omega) (by decide)]; exact sm_l3 h l hl'
    · rw [if_pos rfl, n3]
  have l4 : f_l4 C1 M' nS (nL + 1) := fun l hl' => by
    rw [v3]
    rcases lt_k1 hl' with hl' | rfl
    · rw [if_neg (by omega), oIo _ _ _ (by omega) (by decide)]; exact sm_l4 h l hl'
    · rw [if_pos rfl, n4]
  have l5 : f_l5 C1 M' nS (nL + 1) := fun l hl' => by
    rw [k5 6300 rfl]
    rcases lt_k1 hl' with hl' | rfl
    · rw [oIo _ _ _ (by omega) (by decide)]; exact sm_l5 h l hl'
    · rw [n5, z20]
  have vL : f_vL C1 M' nS (nL + 1) := fun l hl' => by
    rw [v0, v1]
    rcases lt_k1 hl' with hl' | rfl
    · rw [if_neg (by omega), if_neg (by omega)]; exact sm_vL h l hl'
    · rw [if_pos rfl, if_pos rfl]; exact ⟨s, o, ho, hs, rfl, rfl⟩
  have vW : f_vW C1 M' nS (nL + 1) := fun l hl' => by
    rw [v2]
    rcases lt_k1 hl' with hl' | rfl
    · rw [if_neg (by omega)]; exact sm_vW h l hl'
    · rw [if_pos rfl]; exact ⟨w, hw1, hw2, rfl⟩
  have vE : f_vE C1 M' nS (nL + 1) := fun l hl' => by
    rw [v3]
    rcases lt_k1 hl' with hl' | rfl
    · rw [if_neg (by omega)]; exact sm_vE h l hl'
    · rw [if_pos rfl]; exact ⟨e, he, rfl⟩
  have vD : f_vD C1 M' nS (nL + 1) := fun l t hl' ht => by
    rw [v0, k5 6300 rfl, k5 5000 rfl]
    rcases lt_k1 hl' with hl' | rfl
    · rw [if_neg (by omega)]; exact sm_vD h l t hl' ht
    · exact fun _ n => absurd z20 n
  have sne : ∀ t, t < nS → (nI s = nI t ↔ t = s) := fun t ht => ⟨fun x => ((nI_eq (by omega) (by omega)).mp x).symm, fun x => by rw [x]⟩
  have h1 : f_h1 C1 M' nS (nL + 1) := fun t ht => by
    show _ = if mgI M' 5900 0 nL = nI t then some nL else prv (mgI M' 5900 0) t nL
    rw [c813, vnL, prv_cong clo]
    by_cases x : t = s
    · rw [if_pos x, if_pos ((sne t ht).mpr x)]
    · rw [if_neg x, if_neg (fun y => x ((sne t ht).mp y))]; exact sm_h1 h t ht
  have h2 : f_h2 C1 M' nS (nL + 1) := fun l t hl' ht => by
    rw [c402, v0]
    rcases lt_k1 hl' with hl' | rfl
    · rw [if_neg (by omega), if_neg (by omega), prv_cong (fun k hk => clo k (by omega))]; exact sm_h2 h l t hl' ht
    · rw [if_pos rfl, if_pos rfl, prv_cong clo]
      intro x
      rw [(sne t ht).mp x]
  have h3 : f_h3 C1 M' nS (nL + 1) := fun t ht => by
    rw [c812]
    have hc : ctU (fun l => decide (mgI M' 5900 0 l = nI t)) (nL + 1) = ctU (fun l => decide (mgI M 5900 0 l = nI t)) nL + (if t = s then 1 else 0) := by
      rw [ctU_add (fun l => decide (mgI M' 5900 0 l = nI t)) nL 1, ctU_cong (p := fun l => decide (mgI M' 5900 0 l = nI t)) (q := fun l => decide (mgI M 5900 0 l = nI t)) (fun k hk => by show decide _ = decide _; rw [clo k hk])]
      congr 1
      rw [ctU_front]
      show (if decide (mgI M' 5900 0 nL = nI t) = true then 1 else 0) + 0 = _
      rw [vnL]
      by_cases x : t = s
      · rw [if_pos (decide_eq_true ((sne t ht).mpr x)), if_pos x]
      · rw [if_neg (by simpa using fun y => x ((sne t ht).mp y)), if_neg x]
    rw [hc]
    by_cases x : t = s
    · rw [if_pos x, if_pos x, x]
    · rw [if_neg x, if_neg x]; exact sm_h3 h t ht
  have h4 : f_h4 C1 M' nS (nL + 1) := fun t k ht hk => by
    rw [c814]
    have hold := sm_h4 h t k ht hk
    by_cases x : t = s
    · subst x
      rw [if_pos rfl, hB_or, hB_bit (by omega), Bool.or_eq_true, hold, decide_eq_true_iff]
      constructor
      · rintro (⟨l, x1, x2, x3⟩ | x1)
        · exact ⟨l, by omega, by rw [clo l x1]; exact x2, by rw [cln l x1]; exact x3⟩
        · exact ⟨nL, by omega, vnL, by rw [vnO, x1]⟩
      · rintro ⟨l, x1, x2, x3⟩
        rcases lt_k1 x1 with x1 | rfl
        · rw [clo l x1] at x2; rw [cln l x1] at x3
          exact Or.inl ⟨l, x1, x2, x3⟩
        · rw [vnO] at x3
          exact Or.inr ((nI_eq (by omega) (by omega)).mp x3).symm
    · rw [if_neg x, hold]
      constructor
      · rintro ⟨l, x1, x2, x3⟩
        exact ⟨l, by omega, by rw [clo l x1]; exact x2, by rw [cln l x1]; exact x3⟩
      · rintro ⟨l, x1, x2, x3⟩
        rcases lt_k1 x1 with x1 | rfl
        · rw [clo l x1] at x2; rw [cln l x1] at x3
          exact ⟨l, x1, x2, x3⟩
        · rw [vnL] at x2
          exact absurd ((sne t ht).mp x2) x
  have e815 : mgL C1 815 = mgL C 815 := by funext i j; exact oL _ _ _ (by decide)
  have hlow : ∀ t, t < s → mgL C1 815 t 0 = orL (mgI M' 5900 0) (mgI M' 6000 0) (mgI M' 6300 0) (fun o => mgL C1 815 o 0) t (nL + 1) := fun t ht => by
    rw [orL_n (fun z => by rw [vnL] at z; exact absurd ((sne t (by omega)).mp z.1) (by omega)), e815, k5 6300 rfl, orL_lo (fun l hl => ⟨clo l hl, cln l hl⟩)]
    exact sm_h5 h t (by omega)
  have c1 : mgI C1 502 0 0 = nI nS := (oI _ _ _ (by decide) (by decide)).trans d1.1
  obtain ⟨C2, x1, x2, x3⟩ := rf_q (show nS ≤ 64 ∧ nL + 1 ≤ 200 by omega) c1 r1 h1 h2 l1 l5 vL (show s ≤ nS by omega) hlow
  have q8 : mgI C1 800 s 0 = nI s := (oI _ _ _ (by decide) (by decide)).trans s800
  rw [q8, x1]
  simp only [bE_u]
  have q5 : mgI C2 503 0 0 = nI nL := by rw [(x2.on (K := [503]) rfl 503 (by decide)).1]; exact (oI _ _ _ (by decide) (by decide)).trans d1.2
  rw [q5, nI_1]
  have hL2 : EqOff [815, 503] C1 (msI C2 503 0 0 (nI (nL + 1))) := (x2.wide rfl).I rfl
  have h5 : f_h5 (msI C2 503 0 0 (nI (nL + 1))) M' nS (nL + 1) := x3
  have hC : EqP lP C (msI C2 503 0 0 (nI (nL + 1))) := hP.then hL2 rfl
  have y503 : mgI (msI C2 503 0 0 (nI (nL + 1))) 503 0 0 = nI (nL + 1) := gI_s
  refine ⟨_, rfl, ?_, hC⟩
  generalize msI C2 503 0 0 (nI (nL + 1)) = C' at *
  have hCt := hC.txC rfl
  have hMt := hM.txM rfl
  have hM0 : EqOff [] M' M' := EqOff.refl
  have b1 : f_b1 C' M' nS (nL + 1) := ⟨hb.1, hl⟩
  have c1' : f_c1 C' M' nS (nL + 1) := ⟨by rw [(hC.on (K := [502]) rfl 502 (by decide)).1]; exact d1.1, y503⟩
  have c2' : f_c2 C' M' nS (nL + 1) := ⟨by rw [(hM.on (K := [1202]) rfl 1202 (by decide)).1]; exact (sm_c2 h).1, v4⟩
  have z2 : f_z2 C' M' nS (nL + 1) := fun l hl' => by
    rw [k5 6300 rfl]
    exact z2o l (by omega)
  have g1 : f_g1 C' M' nS (nL + 1) := by
    have g0 : f_g1 C' M' nS nL := fr_g1 (hC.on rfl) (hM.on rfl) (sm_g1 h)
    obtain ⟨dd, u, a1, a2, a3, a4, a5, a6, a7⟩ := g0
    exact ⟨dd, u, a1, a2, a3, a4, a5, a6, fun k hk => ⟨(a7 k hk).1.grow (by omega) (Nat.le_refl _), (a7 k hk).2.grow (by omega) (Nat.le_refl _)⟩⟩
  exact ⟨b1,
    c1',
    c2',
    fr_r1 (hL2.on rfl) r1,
    fr_r2 (hL2.on rfl) r2,
    fr_s0 (C' := C') (M' := M') (nS := nS) (nL := nL) (hC.on rfl)  (sm_s0 h),
    fr_sK (C' := C') (M' := M') (nS := nS) (nL := nL) (hC.on rfl) (hM.on rfl) (sm_sK h),
    fr_sM (C' := C') (M' := M') (nS := nS) (nL := nL) (hC.on rfl) (hM.on rfl) (sm_sM h),
    fr_sA (C' := C') (M' := M') (nS := nS) (nL := nL) (hC.on rfl) (hM.on rfl) (sm_sA h),
    fr_sB (C' := C') (M' := M') (nS := nS) (nL := nL) (hC.on rfl) (hM.on rfl) (sm_sB h),
    fr_sI (C' := C') (M' := M') (nS := nS) (nL := nL) (hC.on rfl) (hM.on rfl) (sm_sI h),
    fr_sW (C' := C') (M' := M') (nS := nS) (nL := nL) (hC.on rfl) (hM.on rfl) (sm_sW h),
    fr_sP (C' := C') (M' := M') (nS := nS) (nL := nL) (hC.on rfl) (hM.on rfl) (sm_sP h),
    fr_sH (C' := C') (M' := M') (nS := nS) (nL := nL) (hC.on rfl) (hM.on rfl) (sm_sH h),
    fr_sT (C' := C') (M' := M') (nS := nS) (nL := nL) (hC.on rfl) (hM.on rfl) (sm_sT h),
    fr_vK (C' := C') (M' := M') (nS := nS) (nL := nL)  (hM.on rfl) (sm_vK h),
    fr_vB (C' := C') (M' := M') (nS := nS) (nL := nL)  (hM.on rfl) (sm_vB h),
    fr_n1 (C' := C') (M' := M') (nS := nS) (nL := nL)  (hM.on rfl) (sm_n1 h),
    fr_n2 (C' := C') (M' := M') (nS := nS) (nL := nL) (hC.on rfl) (hM.on rfl) (sm_n2 h),
    fr_vM (C' := C') (M' := M') (nS := nS) (nL := nL)  (hM.on rfl) (sm_vM h),
    fr_vT (C' := C') (M' := M') (nS := nS) (nL := nL)  (hM.on rfl) (sm_vT h),
    fr_tB (C' := C') (M' := M') (nS := nS) (nL := nL) (hC.on rfl) (hM.on rfl) (sm_tB h),
    fr_vJ (C' := C') (M' := M') (nS := nS) (nL := nL)  (hM.on rfl) (sm_vJ h),
    fr_vH (C' := C') (M' := M') (nS := nS) (nL := nL)  (hM.on rfl) (sm_vH h),
    fr_l0 (hL2.on rfl) (hM0.on rfl) l0,
    fr_l1 (hL2.on rfl) (hM0.on rfl) l1,
    fr_l3 (hL2.on rfl) (hM0.on rfl) l3,
    fr_l4 (hL2.on rfl) (hM0.on rfl) l4,
    fr_l5 (hL2.on rfl) (hM0.on rfl) l5,
    vL,
    vW,
    vE,
    vD,
    fr_h1 (hL2.on rfl) (hM0.on rfl) h1,
    fr_h2 (hL2.on rfl) (hM0.on rfl) h2,
    fr_h3 (hL2.on rfl) (hM0.on rfl) h3,
    fr_h4 (hL2.on rfl) (hM0.on rfl) h4,
    h5,
    fr_z1 (C' := C') (M' := M') (nS := nS) (nL := nL)  (hM.on rfl) (sm_z1 h),
    z2,
    fr_z3 (C' := C') (M' := M') (nS := nS) (nL := nL)  (hM.on rfl) (sm_z3 h),
    fr_e1 (C' := C') (M' := M') (nS := nS) (nL := nL) (hC.on rfl) (hM.on rfl) (sm_e1 h),
    fr_e2 (C' := C') (M' := M') (nS := nS) (nL := nL)  (hM.on rfl) (sm_e2 h),
    fr_e3 (C' := C') (M' := M') (nS := nS) (nL := nL) (hC.on rfl) (hM.on rfl) (sm_e3 h),
    fr_o1 (C' := C') (M' := M') (nS := nS) (nL := nL)  (hM.on rfl) (sm_o1 h),
    fr_o2 (C' := C') (M' := M') (nS := nS) (nL := nL) (hC.on rfl) (hM.on rfl) (sm_o2 h),
    fr_o3 (C' := C') (M' := M') (nS := nS) (nL := nL) (hC.on rfl) (hM.on rfl) (sm_o3 h),
    fr_o4 (C' := C') (M' := M') (nS := nS) (nL := nL) (hC.on rfl) (hM.on rfl) (sm_o4 h),
    fr_o5 (C' := C') (M' := M') (nS := nS) (nL := nL) (hC.on rfl) (hM.on rfl) (sm_o5 h),
    fr_o6 (C' := C') (M' := M') (nS := nS) (nL := nL)  (hM.on rfl) (sm_o6 h),
    g1,
    fr_d1 (C' := C') (M' := M') (nS := nS) (nL := nL) (hC.on rfl) (hM.on rfl) (sm_d1 h),
    fr_t1 (C' := C') (M' := M') (nS := nS) (nL := nL) (hC.on rfl) (hM.on rfl) (sm_t1 h),
    fr_x1 hCt hMt (sm_x1 h),
    fr_a1 (C' := C') (M' := M') (nS := nS) (nL := nL) (hC.on rfl) (hM.on rfl) (sm_a1 h),
    fr_a2 (C' := C') (M' := M') (nS := nS) (nL := nL) (hC.on rfl) (hM.on rfl) (sm_a2 h),
    fr_p1 (C' := C') (M' := M') (nS := nS) (nL := nL) (hC.on rfl) (hM.on rfl) (sm_p1 h),
    fr_p2 (C' := C') (M' := M') (nS := nS) (nL := nL) (hC.on rfl) (hM.on rfl) (sm_p2 h)⟩
