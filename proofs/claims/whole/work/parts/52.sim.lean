/-! the simulation -/
def prv (lo : Nat → Int32) (s : Nat) : Nat → Option Nat
  | 0 => none
  | n + 1 => if lo n = nI s then some n else prv lo s n
def orL (lo ln dr : Nat → Int32) (B : Nat → Int64) (s : Nat) : Nat → Int64
  | 0 => 0
  | n + 1 => if lo n = nI s ∧ dr n = 0 then orL lo ln dr B s n ||| (B (ln n).toNatClampNeg ||| fX11_bit (ln n)) else orL lo ln dr B s n
/-- what a change may be, to v -/
def okCh (nL nc : Nat) (w a v : Int32) : Prop :=
  (w = nI 0 ∧ (∃ l, l < nL ∧ a = nI l) ∧ ∃ x, 1 ≤ x ∧ x ≤ 99 ∧ v = nI x) ∨ (w = nI 1 ∧ (∃ l, l < nL ∧ a = nI l) ∧ ∃ x, x ≤ 2 ∧ v = nI x) ∨ (w = nI 2 ∧ ∃ c, c < nc ∧ a = nI c)
def EqF (C C' : Mem) (f : Nat) : Prop := mgI C' f = mgI C f ∧ mgL C' f = mgL C f ∧ mgR C' f = mgR C f
def EqOff (L : List Nat) (C C' : Mem) : Prop := ∀ f, L.contains f = false → EqF C C' f
theorem EqOff.refl {L : List Nat} {C : Mem} : EqOff L C C := fun _ _ => ⟨rfl, rfl, rfl⟩
theorem EqOff.trans {L : List Nat} {A B C : Mem} (h : EqOff L A B) (k : EqOff L B C) : EqOff L A C := fun f hf => ⟨(k f hf).1.trans (h f hf).1, (k f hf).2.1.trans (h f hf).2.1, (k f hf).2.2.trans (h f hf).2.2⟩
theorem EqOff.on {L : List Nat} {C C' : Mem} (h : EqOff L C C') {K : List Nat} (hd : (K.all fun f => !L.contains f) = true) : ∀ f ∈ K, EqF C C' f := fun f hf => h f (by
  have := List.all_eq_true.mp hd f hf
  simpa using this)
theorem EqOff.wide {L K : List Nat} {C C' : Mem} (h : EqOff L C C') (hd : (L.all fun f => K.contains f) = true) : EqOff K C C' := fun f hf => h f (by
  cases hc : L.contains f
  · rfl
  · have := List.all_eq_true.mp hd f (by simpa using hc)
    rw [hf] at this
    exact absurd this (by decide))
theorem ne_of_in {L : List Nat} {f f' : Nat} (hf : L.contains f = true) (h : L.contains f' = false) : f' ≠ f := by
  rintro rfl
  rw [hf] at h
  exact absurd h (by decide)
theorem EqOff.I {L : List Nat} {C C1 : Mem} (h : EqOff L C C1) {f i j : Nat} {v : Int32} (hf : L.contains f = true) : EqOff L C (msI C1 f i j v) := fun f' h' => ⟨(gI_o (ne_of_in hf h')).trans (h f' h').1, (h f' h').2.1, (h f' h').2.2⟩
theorem EqOff.L {L : List Nat} {C C1 : Mem} (h : EqOff L C C1) {f i j : Nat} {v : Int64} (hf : L.contains f = true) : EqOff L C (msL C1 f i j v) := fun f' h' => ⟨(h f' h').1, (gL_o (ne_of_in hf h')).trans (h f' h').2.1, (h f' h').2.2⟩
theorem EqOff.R {L : List Nat} {C C1 : Mem} (h : EqOff L C C1) {f i j : Nat} {v : Option Nat} (hf : L.contains f = true) : EqOff L C (msR C1 f i j v) := fun f' h' => ⟨(h f' h').1, (h f' h').2.1, (gR_o (ne_of_in hf h')).trans (h f' h').2.2⟩
/-- what the component may write at any time -/
def scN : List Nat := [2, 3, 4, 307, 703, 704, 2800, 2900, 3000, 3100, 3400, 4100, 4200, 4300]
def scL : List Nat := [2, 3, 4, 307, 703, 704, 2800, 2900, 3000, 3100, 3400, 4100, 4200, 4300, 1001, 4400]
/-- what the reference may write at any time -/
def smN : List Nat := [1234, 1235, 1236, 1237, 1253, 6400, 6500, 6600, 6700, 6800, 6900, 7400, 7500, 8200, 8300, 9200]
def smL : List Nat := [1234, 1235, 1236, 1237, 1253, 6400, 6500, 6600, 6700, 6800, 6900, 7400, 7500, 8200, 8300, 9200, 7700, 7800, 7900, 8000, 8100]
def TxC (C C' : Mem) : Prop := ∀ u, u < 2 → mgI C' 1001 u 0 = mgI C 1001 u 0 ∧ ∀ j, mgI C' 4400 u j = mgI C 4400 u j
def TxM (M M' : Mem) : Prop := (∀ u, u < 2 → mgI M' 7900 0 u = mgI M 7900 0 u) ∧ (∀ j, j < 260 → mgI M' 7700 0 j = mgI M 7700 0 j ∧ mgI M' 7800 0 j = mgI M 7800 0 j) ∧ (∀ j, j < 122 → mgI M' 8000 0 j = mgI M 8000 0 j ∧ mgI M' 8100 0 j = mgI M 8100 0 j)
theorem TxC.refl {C : Mem} : TxC C C := fun _ _ => ⟨rfl, fun _ => rfl⟩
theorem TxM.refl {M : Mem} : TxM M M := ⟨fun _ _ => rfl, fun _ _ => ⟨rfl, rfl⟩, fun _ _ => ⟨rfl, rfl⟩⟩
theorem TxC.trans {A B C : Mem} (h : TxC A B) (k : TxC B C) : TxC A C := fun u hu => ⟨(k u hu).1.trans (h u hu).1, fun j => ((k u hu).2 j).trans ((h u hu).2 j)⟩
theorem TxM.trans {A B C : Mem} (h : TxM A B) (k : TxM B C) : TxM A C := ⟨fun u hu => (k.1 u hu).trans (h.1 u hu), fun j hj => ⟨(k.2.1 j hj).1.trans (h.2.1 j hj).1, (k.2.1 j hj).2.trans (h.2.1 j hj).2⟩, fun j hj => ⟨(k.2.2 j hj).1.trans (h.2.2 j hj).1, (k.2.2 j hj).2.trans (h.2.2 j hj).2⟩⟩
theorem EqOff.txC {L : List Nat} {C C' : Mem} (h : EqOff L C C') (hd : (([1001, 4400] : List Nat).all fun f => !L.contains f) = true) : TxC C C' := fun u _ => ⟨by rw [(h.on hd 1001 (by decide)).1], fun j => by rw [(h.on hd 4400 (by decide)).1]⟩
theorem EqOff.txM {L : List Nat} {M M' : Mem} (h : EqOff L M M') (hd : (([7700, 7800, 7900, 8000, 8100] : List Nat).all fun f => !L.contains f) = true) : TxM M M' :=
  ⟨fun u _ => by rw [(h.on hd 7900 (by decide)).1], fun j _ => ⟨by rw [(h.on hd 7700 (by decide)).1], by rw [(h.on hd 7800 (by decide)).1]⟩, fun j _ => ⟨by rw [(h.on hd 8000 (by decide)).1], by rw [(h.on hd 8100 (by decide)).1]⟩⟩
def FrC (C C' : Mem) : Prop := EqOff scL C C' ∧ TxC C C'
def FrM (M M' : Mem) : Prop := EqOff smL M M' ∧ TxM M M'
theorem FrC.refl {C : Mem} : FrC C C := ⟨EqOff.refl, TxC.refl⟩
theorem FrM.refl {C : Mem} : FrM C C := ⟨EqOff.refl, TxM.refl⟩
theorem FrC.trans {A B C : Mem} (h : FrC A B) (k : FrC B C) : FrC A C := ⟨h.1.trans k.1, h.2.trans k.2⟩
theorem FrM.trans {A B C : Mem} (h : FrM A B) (k : FrM B C) : FrM A C := ⟨h.1.trans k.1, h.2.trans k.2⟩
theorem FrC.of {C C' : Mem} (h : EqOff scN C C') : FrC C C' := ⟨h.wide (by decide), h.txC (by decide)⟩
theorem FrM.of {C C' : Mem} (h : EqOff smN C C') : FrM C C' := ⟨h.wide (by decide), h.txM (by decide)⟩
theorem FrC.I {C C1 : Mem} (h : FrC C C1) {f i j : Nat} {v : Int32} (hf : scN.contains f = true) : FrC C (msI C1 f i j v) := h.trans (FrC.of (EqOff.refl.I hf))
theorem FrC.L {C C1 : Mem} (h : FrC C C1) {f i j : Nat} {v : Int64} (hf : scN.contains f = true) : FrC C (msL C1 f i j v) := h.trans (FrC.of (EqOff.refl.L hf))
theorem FrM.I {C C1 : Mem} (h : FrM C C1) {f i j : Nat} {v : Int32} (hf : smN.contains f = true) : FrM C (msI C1 f i j v) := h.trans (FrM.of (EqOff.refl.I hf))
theorem FrM.L {C C1 : Mem} (h : FrM C C1) {f i j : Nat} {v : Int64} (hf : smN.contains f = true) : FrM C (msL C1 f i j v) := h.trans (FrM.of (EqOff.refl.L hf))
theorem FrC.i {C C' : Mem} (h : FrC C C') {f : Nat} (hf : scL.contains f = false) : mgI C' f = mgI C f := (h.1 f hf).1
theorem FrC.l {C C' : Mem} (h : FrC C C') {f : Nat} (hf : scL.contains f = false) : mgL C' f = mgL C f := (h.1 f hf).2.1
theorem FrC.r {C C' : Mem} (h : FrC C C') {f : Nat} (hf : scL.contains f = false) : mgR C' f = mgR C f := (h.1 f hf).2.2
theorem FrM.i {C C' : Mem} (h : FrM C C') {f : Nat} (hf : smL.contains f = false) : mgI C' f = mgI C f := (h.1 f hf).1
theorem FrM.l {C C' : Mem} (h : FrM C C') {f : Nat} (hf : smL.contains f = false) : mgL C' f = mgL C f := (h.1 f hf).2.1
/-- a text of the component and a text of the reference give the same, whatever is known -/
def TextEq (u : Nat) (cl : Int32) (ci : Nat → Int32) (lm : Int32) (ac wi te le : Nat → Int32) : Prop :=
  (cl = 0 ↔ lm = 0) ∧ ∀ C M : Mem, mgI C 1001 u 0 = cl → (∀ j, mgI C 4400 u j = ci j) → mgI M 7900 0 u = lm → (∀ j, 130 * u ≤ j → j < 130 * u + 130 → mgI M 7700 0 j = ac j ∧ mgI M 7800 0 j = wi j) → (∀ j, 61 * u ≤ j → j < 61 * u + 61 → mgI M 8000 0 j = te j ∧ mgI M 8100 0 j = le j) →
    (∀ k, k < 7 → mgI C 3000 0 k = mgI M 8200 0 k) → ∃ (v : Int32) (C' M' : Mem), fX3_workOut (some u) C = some (v, C') ∧ fX12_gives (nI u) M = some (v, M') ∧ EqOff [307, 3100] C C' ∧ EqOff [8300] M M'
theorem TextEq.cong {u : Nat} {cl cl' : Int32} {ci ci' : Nat → Int32} {lm lm' : Int32} {ac wi te le ac' wi' te' le' : Nat → Int32} (h : TextEq u cl ci lm ac wi te le) (h1 : cl' = cl) (h2 : ∀ j, ci' j = ci j) (h3 : lm' = lm) (h4 : ∀ j, 130 * u ≤ j → j < 130 * u + 130 → ac' j = ac j ∧ wi' j = wi j) (h5 : ∀ j, 61 * u ≤ j → j < 61 * u + 61 → te' j = te j ∧ le' j = le j) : TextEq u cl' ci' lm' ac' wi' te' le' := by
  refine ⟨by rw [h1, h3]; exact h.1, fun C M g1 g2 g3 g4 g5 g6 => h.2 C M (g1.trans h1) (fun j => (g2 j).trans (h2 j)) (g3.trans h3) (fun j hi hj => ⟨(g4 j hi hj).1.trans (h4 j hi hj).1, (g4 j hi hj).2.trans (h4 j hi hj).2⟩) (fun j hi hj => ⟨(g5 j hi hj).1.trans (h5 j hi hj).1, (g5 j hi hj).2.trans (h5 j hi hj).2⟩) g6⟩
theorem okCh.grow {nL nc nL' nc' : Nat} {w a v : Int32} (h : okCh nL nc w a v) (h1 : nL ≤ nL') (h2 : nc ≤ nc') : okCh nL' nc' w a v := by
  rcases h with ⟨e, ⟨l, hl, ha⟩, hx⟩ | ⟨e, ⟨l, hl, ha⟩, hx⟩ | ⟨e, c, hc, ha⟩
  · exact Or.inl ⟨e, ⟨l, Nat.lt_of_lt_of_le hl h1, ha⟩, hx⟩
  · exact Or.inr (Or.inl ⟨e, ⟨l, Nat.lt_of_lt_of_le hl h1, ha⟩, hx⟩)
  · exact Or.inr (Or.inr ⟨e, c, Nat.lt_of_lt_of_le hc h2, ha⟩)
def f_b1 (C M : Mem) (nS nL : Nat) : Prop := nS ≤ 64 ∧ nL ≤ 200
def f_c1 (C M : Mem) (nS nL : Nat) : Prop := mgI C 502 0 0 = nI nS ∧ mgI C 503 0 0 = nI nL
def f_c2 (C M : Mem) (nS nL : Nat) : Prop := mgI M 1202 0 0 = nI nS ∧ mgI M 1212 0 0 = nI nL
def f_r1 (C M : Mem) (nS nL : Nat) : Prop := ∀ s, s < nS → mgR C 3200 0 s = some s
def f_r2 (C M : Mem) (nS nL : Nat) : Prop := ∀ l, l < nL → mgR C 3300 0 l = some l
def f_s0 (C M : Mem) (nS nL : Nat) : Prop := ∀ s, s < nS → mgI C 800 s 0 = nI s
def f_sK (C M : Mem) (nS nL : Nat) : Prop := ∀ s, s < nS → mgI C 801 s 0 = mgI M 5000 0 s
def f_sM (C M : Mem) (nS nL : Nat) : Prop := ∀ s, s < nS → mgI C 802 s 0 = mgI M 5100 0 s
def f_sA (C M : Mem) (nS nL : Nat) : Prop := ∀ s, s < nS → mgI C 803 s 0 = mgI M 5200 0 s
def f_sB (C M : Mem) (nS nL : Nat) : Prop := ∀ s, s < nS → mgI C 804 s 0 = mgI M 5300 0 s
def f_sI (C M : Mem) (nS nL : Nat) : Prop := ∀ s, s < nS → mgI C 807 s 0 = mgI M 5400 0 s
def f_sW (C M : Mem) (nS nL : Nat) : Prop := ∀ s, s < nS → mgI C 808 s 0 = mgI M 5500 0 s
def f_sP (C M : Mem) (nS nL : Nat) : Prop := ∀ s, s < nS → mgI C 809 s 0 = mgI M 5600 0 s
def f_sH (C M : Mem) (nS nL : Nat) : Prop := ∀ s, s < nS → mgI C 810 s 0 = mgI M 5700 0 s
def f_sT (C M : Mem) (nS nL : Nat) : Prop := ∀ s, s < nS → mgI C 811 s 0 = mgI M 5800 0 s
def f_vK (C M : Mem) (nS nL : Nat) : Prop := ∀ s, s < nS → ∃ k, k ≤ 5 ∧ mgI M 5000 0 s = nI k
def f_vB (C M : Mem) (nS nL : Nat) : Prop := ∀ s, s < nS → mgI M 5000 0 s = nI 1 → ∃ b, b ≤ 999 ∧ mgI M 5300 0 s = nI b
def f_n1 (C M : Mem) (nS nL : Nat) : Prop := mgI M 1201 0 0 = nI (mgI M 1201 0 0).toNatClampNeg ∧ (mgI M 1201 0 0).toNatClampNeg ≤ 599
def f_n2 (C M : Mem) (nS nL : Nat) : Prop := mgI C 504 0 0 = mgI M 1201 0 0
def f_vM (C M : Mem) (nS nL : Nat) : Prop := ∀ s, s < nS → ∃ m, m ≤ (mgI M 1201 0 0).toNatClampNeg ∧ mgI M 5100 0 s = nI m
def f_vT (C M : Mem) (nS nL : Nat) : Prop := ∀ s, s < nS → (mgI M 5400 0 s = -1 ∧ mgI M 5500 0 s = -1) ∨ ∃ m w, m ≤ (mgI M 1201 0 0).toNatClampNeg ∧ mgI M 5400 0 s = nI m ∧ w ≤ 2 ∧ mgI M 5500 0 s = nI w ∧ (w = 0 → ∃ t, 1 ≤ t ∧ t ≤ 9 ∧ mgI M 5600 0 s = nI t)
def f_tB (C M : Mem) (nS nL : Nat) : Prop := ∀ k, k < 64 → hB (mgL C 505 0 0) k = decide (k < nS ∧ ¬ mgI M 5400 0 k < 0)
def f_vJ (C M : Mem) (nS nL : Nat) : Prop := ∀ s, s < nS → mgI M 5800 0 s = 0 ∨ mgI M 5800 0 s = nI 1
def f_vH (C M : Mem) (nS nL : Nat) : Prop := ∀ s, s < nS → ∃ h, h ≤ 2 ∧ mgI M 5700 0 s = nI h
def f_l0 (C M : Mem) (nS nL : Nat) : Prop := ∀ l, l < nL → mgI C 400 l 0 = mgI M 5900 0 l
def f_l1 (C M : Mem) (nS nL : Nat) : Prop := ∀ l, l < nL → mgI C 401 l 0 = mgI M 6000 0 l
def f_l3 (C M : Mem) (nS nL : Nat) : Prop := ∀ l, l < nL → mgI C 403 l 0 = mgI M 6100 0 l
def f_l4 (C M : Mem) (nS nL : Nat) : Prop := ∀ l, l < nL → mgI C 404 l 0 = mgI M 6200 0 l
def f_l5 (C M : Mem) (nS nL : Nat) : Prop := ∀ l, l < nL → mgI C 405 l 0 = mgI M 6300 0 l
def f_vL (C M : Mem) (nS nL : Nat) : Prop := ∀ l, l < nL → ∃ a b, b < a ∧ a < nS ∧ mgI M 5900 0 l = nI a ∧ mgI M 6000 0 l = nI b
def f_vW (C M : Mem) (nS nL : Nat) : Prop := ∀ l, l < nL → ∃ w, 1 ≤ w ∧ w ≤ 99 ∧ mgI M 6100 0 l = nI w
def f_vE (C M : Mem) (nS nL : Nat) : Prop := ∀ l, l < nL → ∃ e, e ≤ 2 ∧ mgI M 6200 0 l = nI e
def f_vD (C M : Mem) (nS nL : Nat) : Prop := ∀ l s, l < nL → s < nS → mgI M 5900 0 l = nI s → ¬ mgI M 6300 0 l = 0 → mgI M 5000 0 s = nI 5
def f_h1 (C M : Mem) (nS nL : Nat) : Prop := ∀ s, s < nS → mgR C 813 s 0 = prv (mgI M 5900 0) s nL
def f_h2 (C M : Mem) (nS nL : Nat) : Prop := ∀ l s, l < nL → s < nS → mgI M 5900 0 l = nI s → mgR C 402 l 0 = prv (mgI M 5900 0) s l
def f_h3 (C M : Mem) (nS nL : Nat) : Prop := ∀ s, s < nS → mgI C 812 s 0 = nI (ctU (fun l => decide (mgI M 5900 0 l = nI s)) nL)
def f_h4 (C M : Mem) (nS nL : Nat) : Prop := ∀ s o, s < nS → o < 64 → (hB (mgL C 814 s 0) o = true ↔ ∃ l, l < nL ∧ mgI M 5900 0 l = nI s ∧ mgI M 6000 0 l = nI o)
def f_h5 (C M : Mem) (nS nL : Nat) : Prop := ∀ s, s < nS → mgL C 815 s 0 = orL (mgI M 5900 0) (mgI M 6000 0) (mgI M 6300 0) (fun o => mgL C 815 o 0) s nL
def f_z1 (C M : Mem) (nS nL : Nat) : Prop := ∀ s, nS ≤ s → mgI M 5600 0 s = 0 ∧ mgI M 5700 0 s = 0 ∧ mgI M 5800 0 s = 0
def f_z2 (C M : Mem) (nS nL : Nat) : Prop := ∀ l, nL ≤ l → mgI M 6300 0 l = 0
def f_z3 (C M : Mem) (nS nL : Nat) : Prop := ∀ j, 20 * nS ≤ j → mgI M 8700 0 j = 0
def f_e1 (C M : Mem) (nS nL : Nat) : Prop := ∀ s n, s < nS → n < 20 → mgI C 4000 s n = mgI M 8700 0 (20 * s + n)
def f_e2 (C M : Mem) (nS nL : Nat) : Prop := ∀ s n, s < nS → n < 20 → ∃ v, v ≤ 9 ∧ mgI M 8700 0 (20 * s + n) = nI v
def f_e3 (C M : Mem) (nS nL : Nat) : Prop := ∀ s, s < nS → ∃ x, x < 1048576 ∧ mgI C 806 s 0 = nI x ∧ ∀ n, x.testBit n = decide (n < 20 ∧ ¬ mgI M 8700 0 (20 * s + n) = 0)
def f_o1 (C M : Mem) (nS nL : Nat) : Prop := mgI M 1246 0 0 = nI (mgI M 1246 0 0).toNatClampNeg ∧ (mgI M 1246 0 0).toNatClampNeg ≤ 60
def f_o2 (C M : Mem) (nS nL : Nat) : Prop := mgI C 201 0 0 = mgI M 1246 0 0
def f_o3 (C M : Mem) (nS nL : Nat) : Prop := ∀ c, c < (mgI M 1246 0 0).toNatClampNeg → mgI C 2600 0 c = mgI M 8400 0 c
def f_o4 (C M : Mem) (nS nL : Nat) : Prop := ∀ c, c < (mgI M 1246 0 0).toNatClampNeg → mgI C 2700 0 c = mgI M 8500 0 c
def f_o5 (C M : Mem) (nS nL : Nat) : Prop := ∀ c, c < (mgI M 1246 0 0).toNatClampNeg → mgI C 2500 0 c = mgI M 8600 0 c
def f_o6 (C M : Mem) (nS nL : Nat) : Prop := ∀ c, c < (mgI M 1246 0 0).toNatClampNeg → ∃ s, s < nS ∧ mgI M 8400 0 c = nI s
def f_g1 (C M : Mem) (nS nL : Nat) : Prop := ∃ d u, d + u ≤ 40 ∧ mgI M 1224 0 0 = nI d ∧ mgI M 1225 0 0 = nI u ∧ mgI C 100 0 0 = nI d ∧ mgI C 101 0 0 = nI (d + u) ∧ (∀ k, k < d + u → mgI C 2100 0 k = mgI M 7000 0 k ∧ mgI C 2200 0 k = mgI M 7100 0 k ∧ mgI C 2300 0 k = mgI M 7200 0 k ∧ mgI C 2400 0 k = mgI M 7300 0 k) ∧ (∀ k, k < d + u → okCh nL (mgI M 1246 0 0).toNatClampNeg (mgI M 7000 0 k) (mgI M 7100 0 k) (mgI M 7200 0 k) ∧ okCh nL (mgI M 1246 0 0).toNatClampNeg (mgI M 7000 0 k) (mgI M 7100 0 k) (mgI M 7300 0 k))
def f_d1 (C M : Mem) (nS nL : Nat) : Prop := mgI C 302 0 0 = mgI M 1245 0 0
def f_t1 (C M : Mem) (nS nL : Nat) : Prop := ∃ t, t ≤ 120 ∧ mgI C 701 0 0 = nI t ∧ mgI M 1233 0 0 = nI t ∧ ∀ k, k < t → ∃ b, b < 256 ∧ mgI C 3900 0 k = nI b ∧ mgI M 7600 0 k = (nI b).toInt8.toInt32
def f_x1 (C M : Mem) (nS nL : Nat) : Prop := ∀ u, u < 2 → TextEq u (mgI C 1001 u 0) (mgI C 4400 u) (mgI M 7900 0 u) (mgI M 7700 0) (mgI M 7800 0) (mgI M 8000 0) (mgI M 8100 0)
def f_a1 (C M : Mem) (nS nL : Nat) : Prop := mgI C 1 0 0 = mgI M 1251 0 0
def f_a2 (C M : Mem) (nS nL : Nat) : Prop := ∀ k, k < 24 → mgI C 2000 0 k = mgI M 8800 0 k
def f_p1 (C M : Mem) (nS nL : Nat) : Prop := ∀ q, q < 6 → (mgI C 3500 0 q = -1 ∧ mgI M 8900 0 q = -1) ∨ (∃ s, s < nS ∧ mgI C 3500 0 q = nI 5 ∧ mgI C 3700 0 q = nI s ∧ mgI M 8900 0 q = nI s) ∨ (∃ e z, e ≤ 4 ∧ z ≤ 60 ∧ mgI C 3500 0 q = nI e ∧ mgI M 8900 0 q = -nI (2 + e) ∧ mgI C 3600 0 q = nI z ∧ mgI M 9000 0 q = nI z)
def f_p2 (C M : Mem) (nS nL : Nat) : Prop := ∀ j, j < 360 → mgL C 3800 0 j = mgL M 9100 0 j
def Sim (C M : Mem) (nS nL : Nat) : Prop := f_b1 C M nS nL ∧ f_c1 C M nS nL ∧ f_c2 C M nS nL ∧ f_r1 C M nS nL ∧ f_r2 C M nS nL ∧ f_s0 C M nS nL ∧ f_sK C M nS nL ∧ f_sM C M nS nL ∧ f_sA C M nS nL ∧ f_sB C M nS nL ∧ f_sI C M nS nL ∧ f_sW C M nS nL ∧ f_sP C M nS nL ∧ f_sH C M nS nL ∧ f_sT C M nS nL ∧ f_vK C M nS nL ∧ f_vB C M nS nL ∧ f_n1 C M nS nL ∧ f_n2 C M nS nL ∧ f_vM C M nS nL ∧ f_vT C M nS nL ∧ f_tB C M nS nL ∧ f_vJ C M nS nL ∧ f_vH C M nS nL ∧ f_l0 C M nS nL ∧ f_l1 C M nS nL ∧ f_l3 C M nS nL ∧ f_l4 C M nS nL ∧ f_l5 C M nS nL ∧ f_vL C M nS nL ∧ f_vW C M nS nL ∧ f_vE C M nS nL ∧ f_vD C M nS nL ∧ f_h1 C M nS nL ∧ f_h2 C M nS nL ∧ f_h3 C M nS nL ∧ f_h4 C M nS nL ∧ f_h5 C M nS nL ∧ f_z1 C M nS nL ∧ f_z2 C M nS nL ∧ f_z3 C M nS nL ∧ f_e1 C M nS nL ∧ f_e2 C M nS nL ∧ f_e3 C M nS nL ∧ f_o1 C M nS nL ∧ f_o2 C M nS nL ∧ f_o3 C M nS nL ∧ f_o4 C M nS nL ∧ f_o5 C M nS nL ∧ f_o6 C M nS nL ∧ f_g1 C M nS nL ∧ f_d1 C M nS nL ∧ f_t1 C M nS nL ∧ f_x1 C M nS nL ∧ f_a1 C M nS nL ∧ f_a2 C M nS nL ∧ f_p1 C M nS nL ∧ f_p2 C M nS nL
theorem sm_b1 {C M : Mem} {nS nL : Nat} (h : Sim C M nS nL) : f_b1 C M nS nL := h.1
theorem sm_c1 {C M : Mem} {nS nL : Nat} (h : Sim C M nS nL) : f_c1 C M nS nL := h.2.1
theorem sm_c2 {C M : Mem} {nS nL : Nat} (h : Sim C M nS nL) : f_c2 C M nS nL := h.2.2.1
theorem sm_r1 {C M : Mem} {nS nL : Nat} (h : Sim C M nS nL) : f_r1 C M nS nL := h.2.2.2.1
theorem sm_r2 {C M : Mem} {nS nL : Nat} (h : Sim C M nS nL) : f_r2 C M nS nL := h.2.2.2.2.1
theorem sm_s0 {C M : Mem} {nS nL : Nat} (h : Sim C M nS nL) : f_s0 C M nS nL := h.2.2.2.2.2.1
theorem sm_sK {C M : Mem} {nS nL : Nat} (h : Sim C M nS nL) : f_sK C M nS nL := h.2.2.2.2.2.2.1
theorem sm_sM {C M : Mem} {nS nL : Nat} (h : Sim C M nS nL) : f_sM C M nS nL := h.2.2.2.2.2.2.2.1
theorem sm_sA {C M : Mem} {nS nL : Nat} (h : Sim C M nS nL) : f_sA C M nS nL := h.2.2.2.2.2.2.2.2.1
theorem sm_sB {C M : Mem} {nS nL : Nat} (h : Sim C M nS nL) : f_sB C M nS nL := h.2.2.2.2.2.2.2.2.2.1
theorem sm_sI {C M : Mem} {nS nL : Nat} (h : Sim C M nS nL) : f_sI C M nS nL := h.2.2.2.2.2.2.2.2.2.2.1
theorem sm_sW {C M : Mem} {nS nL : Nat} (h : Sim C M nS nL) : f_sW C M nS nL := h.2.2.2.2.2.2.2.2.2.2.2.1
theorem sm_sP {C M : Mem} {nS nL : Nat} (h : Sim C M nS nL) : f_sP C M nS nL := h.2.2.2.2.2.2.2.2.2.2.2.2.1
theorem sm_sH {C M : Mem} {nS nL : Nat} (h : Sim C M nS nL) : f_sH C M nS nL := h.2.2.2.2.2.2.2.2.2.2.2.2.2.1
theorem sm_sT {C M : Mem} {nS nL : Nat} (h : Sim C M nS nL) : f_sT C M nS nL := h.2.2.2.2.2.2.2.2.2.2.2.2.2.2.1
theorem sm_vK {C M : Mem} {nS nL : Nat} (h : Sim C M nS nL) : f_vK C M nS nL := h.2.2.2.2.2.2.2.2.2.2.2.2.2.2.2.1
theorem sm_vB {C M : Mem} {nS nL : Nat} (h : Sim C M nS nL) : f_vB C M nS nL := h.2.2.2.2.2.2.2.2.2.2.2.2.2.2.2.2.1
theorem sm_n1 {C M : Mem} {nS nL : Nat} (h : Sim C M nS nL) : f_n1 C M nS nL := h.2.2.2.2.2.2.2.2.2.2.2.2.2.2.2.2.2.1
theorem sm_n2 {C M : Mem} {nS nL : Nat} (h : Sim C M nS nL) : f_n2 C M nS nL := h.2.2.2.2.2.2.2.2.2.2.2.2.2.2.2.2.2.2.1
theorem sm_vM {C M : Mem} {nS nL : Nat} (h : Sim C M nS nL) : f_vM C M nS nL := h.2.2.2.2.2.2.2.2.2.2.2.2.2.2.2.2.2.2.2.1
theorem sm_vT {C M : Mem} {nS nL : Nat} (h : Sim C M nS nL) : f_vT C M nS nL := h.2.2.2.2.2.2.2.2.2.2.2.2.2.2.2.2.2.2.2.2.1
theorem sm_tB {C M : Mem} {nS nL : Nat} (h : Sim C M nS nL) : f_tB C M nS nL := h.2.2.2.2.2.2.2.2.2.2.2.2.2.2.2.2.2.2.2.2.2.1
theorem sm_vJ {C M : Mem} {nS nL : Nat} (h : Sim C M nS nL) : f_vJ C M nS nL := h.2.2.2.2.2.2.2.2.2.2.2.2.2.2.2.2.2.2.2.2.2.2.1
theorem sm_vH {C M : Mem} {nS nL : Nat} (h : Sim C M nS nL) : f_vH C M nS nL := h.2.2.2.2.2.2.2.2.2.2.2.2.2.2.2.2.2.2.2.2.2.2.2.1
theorem sm_l0 {C M : Mem} {nS nL : Nat} (h : Sim C M nS nL) : f_l0 C M nS nL := h.2.2.2.2.2.2.2.2.2.2.2.2.2.2.2.2.2.2.2.2.2.2.2.2.1
theorem sm_l1 {C M : Mem} {nS nL : Nat} (h : Sim C M nS nL) : f_l1 C M nS nL := h.2.2.2.2.2.2.2.2.2.2.2.2.2.2.2.2.2.2.2.2.2.2.2.2.2.1
theorem sm_l3 {C M : Mem} {nS nL : Nat} (h : Sim C M nS nL) : f_l3 C M nS nL := h.2.2.2.2.2.2.2.2.2.2.2.2.2.2.2.2.2.2.2.2.2.2.2.2.2.2.1
theorem sm_l4 {C M : Mem} {nS nL : Nat} (h : Sim C M nS nL) : f_l4 C M nS nL := h.2.2.2.2.2.2.2.2.2.2.2.2.2.2.2.2.2.2.2.2.2.2.2.2.2.2.2.1
theorem sm_l5 {C M : Mem} {nS nL : Nat} (h : Sim C M nS nL) : f_l5 C M nS nL := h.2.2.2.2.2.2.2.2.2.2.2.2.2.2.2.2.2.2.2.2.2.2.2.2.2.2.2.2.1
theorem sm_vL {C M : Mem} {nS nL : Nat} (h : Sim C M nS nL) : f_vL C M nS nL := h.2.2.2.2.2.2.2.2.2.2.2.2.2.2.2.2.2.2.2.2.2.2.2.2.2.2.2.2.2.1
theorem sm_vW {C M : Mem} {nS nL : Nat} (h : Sim C M nS nL) : f_vW C M nS nL := h.2.2.2.2.2.2.2.2.2.2.2.2.2.2.2.2.2.2.2.2.2.2.2.2.2.2.2.2.2.2.1
theorem sm_vE {C M : Mem} {nS nL : Nat} (h : Sim C M nS nL) : f_vE C M nS nL := h.2.2.2.2.2.2.2.2.2.2.2.2.2.2.2.2.2.2.2.2.2.2.2.2.2.2.2.2.2.2.2.1
theorem sm_vD {C M : Mem} {nS nL : Nat} (h : Sim C M nS nL) : f_vD C M nS nL := h.2.2.2.2.2.2.2.2.2.2.2.2.2.2.2.2.2.2.2.2.2.2.2.2.2.2.2.2.2.2.2.2.1
theorem sm_h1 {C M : Mem} {nS nL : Nat} (h : Sim C M nS nL) : f_h1 C M nS nL := h.2.2.2.2.2.2.2.2.2.2.2.2.2.2.2.2.2.2.2.2.2.2.2.2.2.2.2.2.2.2.2.2.2.1
theorem sm_h2 {C M : Mem} {nS nL : Nat} (h : Sim C M nS nL) : f_h2 C M nS nL := h.2.2.2.2.2.2.2.2.2.2.2.2.2.2.2.2.2.2.2.2.2.2.2.2.2.2.2.2.2.2.2.2.2.2.1
theorem sm_h3 {C M : Mem} {nS nL : Nat} (h : Sim C M nS nL) : f_h3 C M nS nL := h.2.2.2.2.2.2.2.2.2.2.2.2.2.2.2.2.2.2.2.2.2.2.2.2.2.2.2.2.2.2.2.2.2.2.2.1
theorem sm_h4 {C M : Mem} {nS nL : Nat} (h : Sim C M nS nL) : f_h4 C M nS nL := h.2.2.2.2.2.2.2.2.2.2.2.2.2.2.2.2.2.2.2.2.2.2.2.2.2.2.2.2.2.2.2.2.2.2.2.2.1
theorem sm_h5 {C M : Mem} {nS nL : Nat} (h : Sim C M nS nL) : f_h5 C M nS nL := h.2.2.2.2.2.2.2.2.2.2.2.2.2.2.2.2.2.2.2.2.2.2.2.2.2.2.2.2.2.2.2.2.2.2.2.2.2.1
theorem sm_z1 {C M : Mem} {nS nL : Nat} (h : Sim C M nS nL) : f_z1 C M nS nL := h.2.2.2.2.2.2.2.2.2.2.2.2.2.2.2.2.2.2.2.2.2.2.2.2.2.2.2.2.2.2.2.2.2.2.2.2.2.2.1
theorem sm_z2 {C M : Mem} {nS nL : Nat} (h : Sim C M nS nL) : f_z2 C M nS nL := h.2.2.2.2.2.2.2.2.2.2.2.2.2.2.2.2.2.2.2.2.2.2.2.2.2.2.2.2.2.2.2.2.2.2.2.2.2.2.2.1
theorem sm_z3 {C M : Mem} {nS nL : Nat} (h : Sim C M nS nL) : f_z3 C M nS nL := h.2.2.2.2.2.2.2.2.2.2.2.2.2.2.2.2.2.2.2.2.2.2.2.2.2.2.2.2.2.2.2.2.2.2.2.2.2.2.2.2.1
theorem sm_e1 {C M : Mem} {nS nL : Nat} (h : Sim C M nS nL) : f_e1 C M nS nL := h.2.2.2.2.2.2.2.2.2.2.2.2.2.2.2.2.2.2.2.2.2.2.2.2.2.2.2.2.2.2.2.2.2.2.2.2.2.2.2.2.2.1
theorem sm_e2 {C M : Mem} {nS nL : Nat} (h : Sim C M nS nL) : f_e2 C M nS nL := h.2.2.2.2.2.2.2.2.2.2.2.2.2.2.2.2.2.2.2.2.2.2.2.2.2.2.2.2.2.2.2.2.2.2.2.2.2.2.2.2.2.2.1
theorem sm_e3 {C M : Mem} {nS nL : Nat} (h : Sim C M nS nL) : f_e3 C M nS nL := h.2.2.2.2.2.2.2.2.2.2.2.2.2.2.2.2.2.2.2.2.2.2.2.2.2.2.2.2.2.2.2.2.2.2.2.2.2.2.2.2.2.2.2.1
theorem sm_o1 {C M : Mem} {nS nL : Nat} (h : Sim C M nS nL) : f_o1 C M nS nL := h.2.2.2.2.2.2.2.2.2.2.2.2.2.2.2.2.2.2.2.2.2.2.2.2.2.2.2.2.2.2.2.2.2.2.2.2.2.2.2.2.2.2.2.2.1
theorem sm_o2 {C M : Mem} {nS nL : Nat} (h : Sim C M nS nL) : f_o2 C M nS nL := h.2.2.2.2.2.2.2.2.2.2.2.2.2.2.2.2.2.2.2.2.2.2.2.2.2.2.2.2.2.2.2.2.2.2.2.2.2.2.2.2.2.2.2.2.2.1
theorem sm_o3 {C M : Mem} {nS nL : Nat} (h : Sim C M nS nL) : f_o3 C M nS nL := h.2.2.2.2.2.2.2.2.2.2.2.2.2.2.2.2.2.2.2.2.2.2.2.2.2.2.2.2.2.2.2.2.2.2.2.2.2.2.2.2.2.2.2.2.2.2.1
theorem sm_o4 {C M : Mem} {nS nL : Nat} (h : Sim C M nS nL) : f_o4 C M nS nL := h.2.2.2.2.2.2.2.2.2.2.2.2.2.2.2.2.2.2.2.2.2.2.2.2.2.2.2.2.2.2.2.2.2.2.2.2.2.2.2.2.2.2.2.2.2.2.2.1
theorem sm_o5 {C M : Mem} {nS nL : Nat} (h : Sim C M nS nL) : f_o5 C M nS nL := h.2.2.2.2.2.2.2.2.2.2.2.2.2.2.2.2.2.2.2.2.2.2.2.2.2.2.2.2.2.2.2.2.2.2.2.2.2.2.2.2.2.2.2.2.2.2.2.2.1
theorem sm_o6 {C M : Mem} {nS nL : Nat} (h : Sim C M nS nL) : f_o6 C M nS nL := h.2.2.2.2.2.2.2.2.2.2.2.2.2.2.2.2.2.2.2.2.2.2.2.2.2.2.2.2.2.2.2.2.2.2.2.2.2.2.2.2.2.2.2.2.2.2.2.2.2.1
theorem sm_g1 {C M : Mem} {nS nL : Nat} (h : Sim C M nS nL) : f_g1 C M nS nL := h.2.2.2.2.2.2.2.2.2.2.2.2.2.2.2.2.2.2.2.2.2.2.2.2.2.2.2.2.2.2.2.2.2.2.2.2.2.2.2.2.2.2.2.2.2.2.2.2.2.2.1
theorem sm_d1 {C M : Mem} {nS nL : Nat} (h : Sim C M nS nL) : f_d1 C M nS nL := h.2.2.2.2.2.2.2.2.2.2.2.2.2.2.2.2.2.2.2.2.2.2.2.2.2.2.2.2.2.2.2.2.2.2.2.2.2.2.2.2.2.2.2.2.2.2.2.2.2.2.2.1
theorem sm_t1 {C M : Mem} {nS nL : Nat} (h : Sim C M nS nL) : f_t1 C M nS nL := h.2.2.2.2.2.2.2.2.2.2.2.2.2.2.2.2.2.2.2.2.2.2.2.2.2.2.2.2.2.2.2.2.2.2.2.2.2.2.2.2.2.2.2.2.2.2.2.2.2.2.2.2.1
theorem sm_x1 {C M : Mem} {nS nL : Nat} (h : Sim C M nS nL) : f_x1 C M nS nL := h.2.2.2.2.2.2.2.2.2.2.2.2.2.2.2.2.2.2.2.2.2.2.2.2.2.2.2.2.2.2.2.2.2.2.2.2.2.2.2.2.2.2.2.2.2.2.2.2.2.2.2.2.2.1
theorem sm_a1 {C M : Mem} {nS nL : Nat} (h : Sim C M nS nL) : f_a1 C M nS nL := h.2.2.2.2.2.2.2.2.2.2.2.2.2.2.2.2.2.2.2.2.2.2.2.2.2.2.2.2.2.2.2.2.2.2.2.2.2.2.2.2.2.2.2.2.2.2.2.2.2.2.2.2.2.2.1
theorem sm_a2 {C M : Mem} {nS nL : Nat} (h : Sim C M nS nL) : f_a2 C M nS nL := h.2.2.2.2.2.2.2.2.2.2.2.2.2.2.2.2.2.2.2.2.2.2.2.2.2.2.2.2.2.2.2.2.2.2.2.2.2.2.2.2.2.2.2.2.2.2.2.2.2.2.2.2.2.2.2.1
theorem sm_p1 {C M : Mem} {nS nL : Nat} (h : Sim C M nS nL) : f_p1 C M nS nL := h.2.2.2.2.2.2.2.2.2.2.2.2.2.2.2.2.2.2.2.2.2.2.2.2.2.2.2.2.2.2.2.2.2.2.2.2.2.2.2.2.2.2.2.2.2.2.2.2.2.2.2.2.2.2.2.2.1
theorem sm_p2 {C M : Mem} {nS nL : Nat} (h : Sim C M nS nL) : f_p2 C M nS nL := h.2.2.2.2.2.2.2.2.2.2.2.2.2.2.2.2.2.2.2.2.2.2.2.2.2.2.2.2.2.2.2.2.2.2.2.2.2.2.2.2.2.2.2.2.2.2.2.2.2.2.2.2.2.2.2.2.2
theorem fr_b1 {C M C' M' : Mem} {nS nL : Nat} (h : f_b1 C M nS nL) : f_b1 C' M' nS nL := h
theorem fr_c1 {C C' M M' : Mem} {nS nL : Nat} (hC : ∀ f ∈ ([502, 503] : List Nat), EqF C C' f) (h : f_c1 C M nS nL) : f_c1 C' M' nS nL := by
  unfold f_c1 at h ⊢
  simp only [(hC 502 (by decide)).1, (hC 503 (by decide)).1]
  exact h
theorem fr_c2 {C C' M M' : Mem} {nS nL : Nat} (hM : ∀ f ∈ ([1202, 1212] : List Nat), EqF M M' f) (h : f_c2 C M nS nL) : f_c2 C' M' nS nL := by
  unfold f_c2 at h ⊢
  simp only [(hM 1202 (by decide)).1, (hM 1212 (by decide)).1]
  exact h
theorem fr_r1 {C C' M M' : Mem} {nS nL : Nat} (hC : ∀ f ∈ ([3200] : List Nat), EqF C C' f) (h : f_r1 C M nS nL) : f_r1 C' M' nS nL := by
  unfold f_r1 at h ⊢
  simp only [(hC 3200 (by decide)).2.2]
  exact h
theorem fr_r2 {C C' M M' : Mem} {nS nL : Nat} (hC : ∀ f ∈ ([3300] : List Nat), EqF C C' f) (h : f_r2 C M nS nL) : f_r2 C' M' nS nL := by
  unfold f_r2 at h ⊢
  simp only [(hC 3300 (by decide)).2.2]
  exact h
theorem fr_s0 {C C' M M' : Mem} {nS nL : Nat} (hC : ∀ f ∈ ([800] : List Nat), EqF C C' f) (h : f_s0 C M nS nL) : f_s0 C' M' nS nL := by
  unfold f_s0 at h ⊢
  simp only [(hC 800 (by decide)).1]
  exact h
theorem fr_sK {C C' M M' : Mem} {nS nL : Nat} (hC : ∀ f ∈ ([801] : List Nat), EqF C C' f) (hM : ∀ f ∈ ([5000] : List Nat), EqF M M' f) (h : f_sK C M nS nL) : f_sK C' M' nS nL := by
  unfold f_sK at h ⊢
  simp only [(hC 801 (by decide)).1, (hM 5000 (by decide)).1]
  exact h
theorem fr_sM {C C' M M' : Mem} {nS nL : Nat} (hC : ∀ f ∈ ([802] : List Nat), EqF C C' f) (hM : ∀ f ∈ ([5100] : List Nat), EqF M M' f) (h : f_sM C M nS nL) : f_sM C' M' nS nL := by
  unfold f_sM at h ⊢
  simp only [(hC 802 (by decide)).1, (hM 5100 (by decide)).1]
  exact h
theorem fr_sA {C C' M M' : Mem} {nS nL : Nat} (hC : ∀ f ∈ ([803] : List Nat), EqF C C' f) (hM : ∀ f ∈ ([5200] : List Nat), EqF M M' f) (h : f_sA C M nS nL) : f_sA C' M' nS nL := by
  unfold f_sA at h ⊢
  simp only [(hC 803 (by decide)).1, (hM 5200 (by decide)).1]
  exact h
theorem fr_sB {C C' M M' : Mem} {nS nL : Nat} (hC : ∀ f ∈ ([804] : List Nat), EqF C C' f) (hM : ∀ f ∈ ([5300] : List Nat), EqF M M' f) (h : f_sB C M nS nL) : f_sB C' M' nS nL := by
  unfold f_sB at h ⊢
  simp only [(hC 804 (by decide)).1, (hM 5300 (by decide)).1]
  exact h
theorem fr_sI {C C' M M' : Mem} {nS nL : Nat} (hC : ∀ f ∈ ([807] : List Nat), EqF C C' f) (hM : ∀ f ∈ ([5400] : List Nat), EqF M M' f) (h : f_sI C M nS nL) : f_sI C' M' nS nL := by
  unfold f_sI at h ⊢
  simp only [(hC 807 (by decide)).1, (hM 5400 (by decide)).1]
  exact h
theorem fr_sW {C C' M M' : Mem} {nS nL : Nat} (hC : ∀ f ∈ ([808] : List Nat), EqF C C' f) (hM : ∀ f ∈ ([5500] : List Nat), EqF M M' f) (h : f_sW C M nS nL) : f_sW C' M' nS nL := by
  unfold f_sW at h ⊢
  simp only [(hC 808 (by decide)).1, (hM 5500 (by decide)).1]
  exact h
theorem fr_sP {C C' M M' : Mem} {nS nL : Nat} (hC : ∀ f ∈ ([809] : List Nat), EqF C C' f) (hM : ∀ f ∈ ([5600] : List Nat), EqF M M' f) (h : f_sP C M nS nL) : f_sP C' M' nS nL := by
  unfold f_sP at h ⊢
  simp only [(hC 809 (by decide)).1, (hM 5600 (by decide)).1]
  exact h
theorem fr_sH {C C' M M' : Mem} {nS nL : Nat} (hC : ∀ f ∈ ([810] : List Nat), EqF C C' f) (hM : ∀ f ∈ ([5700] : List Nat), EqF M M' f) (h : f_sH C M nS nL) : f_sH C' M' nS nL := by
  unfold f_sH at h ⊢
  simp only [(hC 810 (by decide)).1, (hM 5700 (by decide)).1]
  exact h
theorem fr_sT {C C' M M' : Mem} {nS nL : Nat} (hC : ∀ f ∈ ([811] : List Nat), EqF C C' f) (hM : ∀ f ∈ ([5800] : List Nat), EqF M M' f) (h : f_sT C M nS nL) : f_sT C' M' nS nL := by
  unfold f_sT at h ⊢
  simp only [(hC 811 (by decide)).1, (hM 5800 (by decide)).1]
  exact h
theorem fr_vK {C C' M M' : Mem} {nS nL : Nat} (hM : ∀ f ∈ ([5000] : List Nat), EqF M M' f) (h : f_vK C M nS nL) : f_vK C' M' nS nL := by
  unfold f_vK at h ⊢
  simp only [(hM 5000 (by decide)).1]
  exact h
theorem fr_vB {C C' M M' : Mem} {nS nL : Nat} (hM : ∀ f ∈ ([5000, 5300] : List Nat), EqF M M' f) (h : f_vB C M nS nL) : f_vB C' M' nS nL := by
  unfold f_vB at h ⊢
  simp only [(hM 5000 (by decide)).1, (hM 5300 (by decide)).1]
  exact h
theorem fr_n1 {C C' M M' : Mem} {nS nL : Nat} (hM : ∀ f ∈ ([1201] : List Nat), EqF M M' f) (h : f_n1 C M nS nL) : f_n1 C' M' nS nL := by
  unfold f_n1 at h ⊢
  simp only [(hM 1201 (by decide)).1]
  exact h
theorem fr_n2 {C C' M M' : Mem} {nS nL : Nat} (hC : ∀ f ∈ ([504] : List Nat), EqF C C' f) (hM : ∀ f ∈ ([1201] : List Nat), EqF M M' f) (h : f_n2 C M nS nL) : f_n2 C' M' nS nL := by
  unfold f_n2 at h ⊢
  simp only [(hC 504 (by decide)).1, (hM 1201 (by decide)).1]
  exact h
theorem fr_vM {C C' M M' : Mem} {nS nL : Nat} (hM : ∀ f ∈ ([1201, 5100] : List Nat), EqF M M' f) (h : f_vM C M nS nL) : f_vM C' M' nS nL := by
  unfold f_vM at h ⊢
  simp only [(hM 1201 (by decide)).1, (hM 5100 (by decide)).1]
  exact h
theorem fr_vT {C C' M M' : Mem} {nS nL : Nat} (hM : ∀ f ∈ ([1201, 5400, 5500, 5600] : List Nat), EqF M M' f) (h : f_vT C M nS nL) : f_vT C' M' nS nL := by
  unfold f_vT at h ⊢
  simp only [(hM 1201 (by decide)).1, (hM 5400 (by decide)).1, (hM 5500 (by decide)).1, (hM 5600 (by decide)).1]
  exact h
theorem fr_tB {C C' M M' : Mem} {nS nL : Nat} (hC : ∀ f ∈ ([505] : List Nat), EqF C C' f) (hM : ∀ f ∈ ([5400] : List Nat), EqF M M' f) (h : f_tB C M nS nL) : f_tB C' M' nS nL := by
  unfold f_tB at h ⊢
  simp only [(hC 505 (by decide)).2.1, (hM 5400 (by decide)).1]
  exact h
theorem fr_vJ {C C' M M' : Mem} {nS nL : Nat} (hM : ∀ f ∈ ([5800] : List Nat), EqF M M' f) (h : f_vJ C M nS nL) : f_vJ C' M' nS nL := by
  unfold f_vJ at h ⊢
  simp only [(hM 5800 (by decide)).1]
  exact h
theorem fr_vH {C C' M M' : Mem} {nS nL : Nat} (hM : ∀ f ∈ ([5700] : List Nat), EqF M M' f) (h : f_vH C M nS nL) : f_vH C' M' nS nL := by
  unfold f_vH at h ⊢
  simp only [(hM 5700 (by decide)).1]
  exact h
theorem fr_l0 {C C' M M' : Mem} {nS nL : Nat} (hC : ∀ f ∈ ([400] : List Nat), EqF C C' f) (hM : ∀ f ∈ ([5900] : List Nat), EqF M M' f) (h : f_l0 C M nS nL) : f_l0 C' M' nS nL := by
  unfold f_l0 at h ⊢
  simp only [(hC 400 (by decide)).1, (hM 5900 (by decide)).1]
  exact h
theorem fr_l1 {C C' M M' : Mem} {nS nL : Nat} (hC : ∀ f ∈ ([401] : List Nat), EqF C C' f) (hM : ∀ f ∈ ([6000] : List Nat), EqF M M' f) (h : f_l1 C M nS nL) : f_l1 C' M' nS nL := by
  unfold f_l1 at h ⊢
  simp only [(hC 401 (by decide)).1, (hM 6000 (by decide)).1]
  exact h
theorem fr_l3 {C C' M M' : Mem} {nS nL : Nat} (hC : ∀ f ∈ ([403] : List Nat), EqF C C' f) (hM : ∀ f ∈ ([6100] : List Nat), EqF M M' f) (h : f_l3 C M nS nL) : f_l3 C' M' nS nL := by
  unfold f_l3 at h ⊢
  simp only [(hC 403 (by decide)).1, (hM 6100 (by decide)).1]
  exact h
theorem fr_l4 {C C' M M' : Mem} {nS nL : Nat} (hC : ∀ f ∈ ([404] : List Nat), EqF C C' f) (hM : ∀ f ∈ ([6200] : List Nat), EqF M M' f) (h : f_l4 C M nS nL) : f_l4 C' M' nS nL := by
  unfold f_l4 at h ⊢
  simp only [(hC 404 (by decide)).1, (hM 6200 (by decide)).1]
  exact h
theorem fr_l5 {C C' M M' : Mem} {nS nL : Nat} (hC : ∀ f ∈ ([405] : List Nat), EqF C C' f) (hM : ∀ f ∈ ([6300] : List Nat), EqF M M' f) (h : f_l5 C M nS nL) : f_l5 C' M' nS nL := by
  unfold f_l5 at h ⊢
  simp only [(hC 405 (by decide)).1, (hM 6300 (by decide)).1]
  exact h
theorem fr_vL {C C' M M' : Mem} {nS nL : Nat} (hM : ∀ f ∈ ([5900, 6000] : List Nat), EqF M M' f) (h : f_vL C M nS nL) : f_vL C' M' nS nL := by
  unfold f_vL at h ⊢
  simp only [(hM 5900 (by decide)).1, (hM 6000 (by decide)).1]
  exact h
theorem fr_vW {C C' M M' : Mem} {nS nL : Nat} (hM : ∀ f ∈ ([6100] : List Nat), EqF M M' f) (h : f_vW C M nS nL) : f_vW C' M' nS nL := by
  unfold f_vW at h ⊢
  simp only [(hM 6100 (by decide)).1]
  exact h
theorem fr_vE {C C' M M' : Mem} {nS nL : Nat} (hM : ∀ f ∈ ([6200] : List Nat), EqF M M' f) (h : f_vE C M nS nL) : f_vE C' M' nS nL := by
  unfold f_vE at h ⊢
  simp only [(hM 6200 (by decide)).1]
  exact h
theorem fr_vD {C C' M M' : Mem} {nS nL : Nat} (hM : ∀ f ∈ ([5000, 5900, 6300] : List Nat), EqF M M' f) (h : f_vD C M nS nL) : f_vD C' M' nS nL := by
  unfold f_vD at h ⊢
  simp only [(hM 5000 (by decide)).1, (hM 5900 (by decide)).1, (hM 6300 (by decide)).1]
  exact h
theorem fr_h1 {C C' M M' : Mem} {nS nL : Nat} (hC : ∀ f ∈ ([813] : List Nat), EqF C C' f) (hM : ∀ f ∈ ([5900] : List Nat), EqF M M' f) (h : f_h1 C M nS nL) : f_h1 C' M' nS nL := by
  unfold f_h1 at h ⊢
  simp only [(hC 813 (by decide)).2.2, (hM 5900 (by decide)).1]
  exact h
theorem fr_h2 {C C' M M' : Mem} {nS nL : Nat} (hC : ∀ f ∈ ([402] : List Nat), EqF C C' f) (hM : ∀ f ∈ ([5900] : List Nat), EqF M M' f) (h : f_h2 C M nS nL) : f_h2 C' M' nS nL := by
  unfold f_h2 at h ⊢
  simp only [(hC 402 (by decide)).2.2, (hM 5900 (by decide)).1]
  exact h
theorem fr_h3 {C C' M M' : Mem} {nS nL : Nat} (hC : ∀ f ∈ ([812] : List Nat), EqF C C' f) (hM : ∀ f ∈ ([5900] : List Nat), EqF M M' f) (h : f_h3 C M nS nL) : f_h3 C' M' nS nL := by
  unfold f_h3 at h ⊢
  simp only [(hC 812 (by decide)).1, (hM 5900 (by decide)).1]
  exact h
theorem fr_h4 {C C' M M' : Mem} {nS nL : Nat} (hC : ∀ f ∈ ([814] : List Nat), EqF C C' f) (hM : ∀ f ∈ ([5900, 6000] : List Nat), EqF M M' f) (h : f_h4 C M nS nL) : f_h4 C' M' nS nL := by
  unfold f_h4 at h ⊢
  simp only [(hC 814 (by decide)).2.1, (hM 5900 (by decide)).1, (hM 6000 (by decide)).1]
  exact h
theorem fr_h5 {C C' M M' : Mem} {nS nL : Nat} (hC : ∀ f ∈ ([815] : List Nat), EqF C C' f) (hM : ∀ f ∈ ([5900, 6000, 6300] : List Nat), EqF M M' f) (h : f_h5 C M nS nL) : f_h5 C' M' nS nL := by
  unfold f_h5 at h ⊢
  simp only [(hC 815 (by decide)).2.1, (hM 5900 (by decide)).1, (hM 6000 (by decide)).1, (hM 6300 (by decide)).1]
  exact h
theorem fr_z1 {C C' M M' : Mem} {nS nL : Nat} (hM : ∀ f ∈ ([5600, 5700, 5800] : List Nat), EqF M M' f) (h : f_z1 C M nS nL) : f_z1 C' M' nS nL := by
  unfold f_z1 at h ⊢
  simp only [(hM 5600 (by decide)).1, (hM 5700 (by decide)).1, (hM 5800 (by decide)).1]
  exact h
theorem fr_z2 {C C' M M' : Mem} {nS nL : Nat} (hM : ∀ f ∈ ([6300] : List Nat), EqF M M' f) (h : f_z2 C M nS nL) : f_z2 C' M' nS nL := by
  unfold f_z2 at h ⊢
  simp only [(hM 6300 (by decide)).1]
  exact h
theorem fr_z3 {C C' M M' : Mem} {nS nL : Nat} (hM : ∀ f ∈ ([8700] : List Nat), EqF M M' f) (h : f_z3 C M nS nL) : f_z3 C' M' nS nL := by
  unfold f_z3 at h ⊢
  simp only [(hM 8700 (by decide)).1]
  exact h
theorem fr_e1 {C C' M M' : Mem} {nS nL : Nat} (hC : ∀ f ∈ ([4000] : List Nat), EqF C C' f) (hM : ∀ f ∈ ([8700] : List Nat), EqF M M' f) (h : f_e1 C M nS nL) : f_e1 C' M' nS nL := by
  unfold f_e1 at h ⊢
  simp only [(hC 4000 (by decide)).1, (hM 8700 (by decide)).1]
  exact h
theorem fr_e2 {C C' M M' : Mem} {nS nL : Nat} (hM : ∀ f ∈ ([8700] : List Nat), EqF M M' f) (h : f_e2 C M nS nL) : f_e2 C' M' nS nL := by
  unfold f_e2 at h ⊢
  simp only [(hM 8700 (by decide)).1]
  exact h
theorem fr_e3 {C C' M M' : Mem} {nS nL : Nat} (hC : ∀ f ∈ ([806] : List Nat), EqF C C' f) (hM : ∀ f ∈ ([8700] : List Nat), EqF M M' f) (h : f_e3 C M nS nL) : f_e3 C' M' nS nL := by
  unfold f_e3 at h ⊢
  simp only [(hC 806 (by decide)).1, (hM 8700 (by decide)).1]
  exact h
theorem fr_o1 {C C' M M' : Mem} {nS nL : Nat} (hM : ∀ f ∈ ([1246] : List Nat), EqF M M' f) (h : f_o1 C M nS nL) : f_o1 C' M' nS nL := by
  unfold f_o1 at h ⊢
  simp only [(hM 1246 (by decide)).1]
  exact h
theorem fr_o2 {C C' M M' : Mem} {nS nL : Nat} (hC : ∀ f ∈ ([201] : List Nat), EqF C C' f) (hM : ∀ f ∈ ([1246] : List Nat), EqF M M' f) (h : f_o2 C M nS nL) : f_o2 C' M' nS nL := by
  unfold f_o2 at h ⊢
  simp only [(hC 201 (by decide)).1, (hM 1246 (by decide)).1]
  exact h
theorem fr_o3 {C C' M M' : Mem} {nS nL : Nat} (hC : ∀ f ∈ ([2600] : List Nat), EqF C C' f) (hM : ∀ f ∈ ([1246, 8400] : List Nat), EqF M M' f) (h : f_o3 C M nS nL) : f_o3 C' M' nS nL := by
  unfold f_o3 at h ⊢
  simp only [(hC 2600 (by decide)).1, (hM 1246 (by decide)).1, (hM 8400 (by decide)).1]
  exact h
theorem fr_o4 {C C' M M' : Mem} {nS nL : Nat} (hC : ∀ f ∈ ([2700] : List Nat), EqF C C' f) (hM : ∀ f ∈ ([1246, 8500] : List Nat), EqF M M' f) (h : f_o4 C M nS nL) : f_o4 C' M' nS nL := by
  unfold f_o4 at h ⊢
  simp only [(hC 2700 (by decide)).1, (hM 1246 (by decide)).1, (hM 8500 (by decide)).1]
  exact h
theorem fr_o5 {C C' M M' : Mem} {nS nL : Nat} (hC : ∀ f ∈ ([2500] : List Nat), EqF C C' f) (hM : ∀ f ∈ ([1246, 8600] : List Nat), EqF M M' f) (h : f_o5 C M nS nL) : f_o5 C' M' nS nL := by
  unfold f_o5 at h ⊢
  simp only [(hC 2500 (by decide)).1, (hM 1246 (by decide)).1, (hM 8600 (by decide)).1]
  exact h
theorem fr_o6 {C C' M M' : Mem} {nS nL : Nat} (hM : ∀ f ∈ ([1246, 8400] : List Nat), EqF M M' f) (h : f_o6 C M nS nL) : f_o6 C' M' nS nL := by
  unfold f_o6 at h ⊢
  simp only [(hM 1246 (by decide)).1, (hM 8400 (by decide)).1]
  exact h
theorem fr_g1 {C C' M M' : Mem} {nS nL : Nat} (hC : ∀ f ∈ ([100, 101, 2100, 2200, 2300, 2400] : List Nat), EqF C C' f) (hM : ∀ f ∈ ([1224, 1225, 1246, 7000, 7100, 7200, 7300] : List Nat), EqF M M' f) (h : f_g1 C M nS nL) : f_g1 C' M' nS nL := by
  unfold f_g1 at h ⊢
  simp only [(hC 100 (by decide)).1, (hC 101 (by decide)).1, (hC 2100 (by decide)).1, (hC 2200 (by decide)).1, (hC 2300 (by decide)).1, (hC 2400 (by decide)).1, (hM 1224 (by decide)).1, (hM 1225 (by decide)).1, (hM 1246 (by decide)).1, (hM 7000 (by decide)).1, (hM 7100 (by decide)).1, (hM 7200 (by decide)).1, (hM 7300 (by decide)).1]
  exact h
theorem fr_d1 {C C' M M' : Mem} {nS nL : Nat} (hC : ∀ f ∈ ([302] : List Nat), EqF C C' f) (hM : ∀ f ∈ ([1245] : List Nat), EqF M M' f) (h : f_d1 C M nS nL) : f_d1 C' M' nS nL := by
  unfold f_d1 at h ⊢
  simp only [(hC 302 (by decide)).1, (hM 1245 (by decide)).1]
  exact h
theorem fr_t1 {C C' M M' : Mem} {nS nL : Nat} (hC : ∀ f ∈ ([701, 3900] : List Nat), EqF C C' f) (hM : ∀ f ∈ ([1233, 7600] : List Nat), EqF M M' f) (h : f_t1 C M nS nL) : f_t1 C' M' nS nL := by
  unfold f_t1 at h ⊢
  simp only [(hC 701 (by decide)).1, (hC 3900 (by decide)).1, (hM 1233 (by decide)).1, (hM 7600 (by decide)).1]
  exact h
theorem fr_a1 {C C' M M' : Mem} {nS nL : Nat} (hC : ∀ f ∈ ([1] : List Nat), EqF C C' f) (hM : ∀ f ∈ ([1251] : List Nat), EqF M M' f) (h : f_a1 C M nS nL) : f_a1 C' M' nS nL := by
  unfold f_a1 at h ⊢
  simp only [(hC 1 (by decide)).1, (hM 1251 (by decide)).1]
  exact h
theorem fr_a2 {C C' M M' : Mem} {nS nL : Nat} (hC : ∀ f ∈ ([2000] : List Nat), EqF C C' f) (hM : ∀ f ∈ ([8800] : List Nat), EqF M M' f) (h : f_a2 C M nS nL) : f_a2 C' M' nS nL := by
  unfold f_a2 at h ⊢
  simp only [(hC 2000 (by decide)).1, (hM 8800 (by decide)).1]
  exact h
theorem fr_p1 {C C' M M' : Mem} {nS nL : Nat} (hC : ∀ f ∈ ([3500, 3600, 3700] : List Nat), EqF C C' f) (hM : ∀ f ∈ ([8900, 9000] : List Nat), EqF M M' f) (h : f_p1 C M nS nL) : f_p1 C' M' nS nL := by
  unfold f_p1 at h ⊢
  simp only [(hC 3500 (by decide)).1, (hC 3600 (by decide)).1, (hC 3700 (by decide)).1, (hM 8900 (by decide)).1, (hM 9000 (by decide)).1]
  exact h
theorem fr_p2 {C C' M M' : Mem} {nS nL : Nat} (hC : ∀ f ∈ ([3800] : List Nat), EqF C C' f) (hM : ∀ f ∈ ([9100] : List Nat), EqF M M' f) (h : f_p2 C M nS nL) : f_p2 C' M' nS nL := by
  unfold f_p2 at h ⊢
  simp only [(hC 3800 (by decide)).2.1, (hM 9100 (by decide)).2.1]
  exact h
theorem fr_x1 {C M C' M' : Mem} {nS nL nS' nL' : Nat} (hC : TxC C C') (hM : TxM M M') (h : f_x1 C M nS nL) : f_x1 C' M' nS' nL' :=
  fun u hu => (h u hu).cong (hC u hu).1 (hC u hu).2 (hM.1 u hu) (fun j _ hj => hM.2.1 j (by omega)) (fun j _ hj => hM.2.2 j (by omega))
theorem Sim.fr {C M C' M' : Mem} {nS nL : Nat} (h : Sim C M nS nL) (fC : FrC C C') (fM : FrM M M') : Sim C' M' nS nL := by
  have hC := fC.1
  have hM := fM.1
  have hCt := fC.2
  have hMt := fM.2
  exact ⟨fr_b1 (sm_b1 h),
    fr_c1 (hC.on rfl)  (sm_c1 h),
    fr_c2  (hM.on rfl) (sm_c2 h),
    fr_r1 (hC.on rfl)  (sm_r1 h),
    fr_r2 (hC.on rfl)  (sm_r2 h),
    fr_s0 (hC.on rfl)  (sm_s0 h),
    fr_sK (hC.on rfl) (hM.on rfl) (sm_sK h),
    fr_sM (hC.on rfl) (hM.on rfl) (sm_sM h),
    fr_sA (hC.on rfl) (hM.on rfl) (sm_sA h),
    fr_sB (hC.on rfl) (hM.on rfl) (sm_sB h),
    fr_sI (hC.on rfl) (hM.on rfl) (sm_sI h),
    fr_sW (hC.on rfl) (hM.on rfl) (sm_sW h),
    fr_sP (hC.on rfl) (hM.on rfl) (sm_sP h),
    fr_sH (hC.on rfl) (hM.on rfl) (sm_sH h),
    fr_sT (hC.on rfl) (hM.on rfl) (sm_sT h),
    fr_vK  (hM.on rfl) (sm_vK h),
    fr_vB  (hM.on rfl) (sm_vB h),
    fr_n1  (hM.on rfl) (sm_n1 h),
    fr_n2 (hC.on rfl) (hM.on rfl) (sm_n2 h),
    fr_vM  (hM.on rfl) (sm_vM h),
    fr_vT  (hM.on rfl) (sm_vT h),
    fr_tB (hC.on rfl) (hM.on rfl) (sm_tB h),
    fr_vJ  (hM.on rfl) (sm_vJ h),
    fr_vH  (hM.on rfl) (sm_vH h),
    fr_l0 (hC.on rfl) (hM.on rfl) (sm_l0 h),
    fr_l1 (hC.on rfl) (hM.on rfl) (sm_l1 h),
    fr_l3 (hC.on rfl) (hM.on rfl) (sm_l3 h),
    fr_l4 (hC.on rfl) (hM.on rfl) (sm_l4 h),
    fr_l5 (hC.on rfl) (hM.on rfl) (sm_l5 h),
    fr_vL  (hM.on rfl) (sm_vL h),
    fr_vW  (hM.on rfl) (sm_vW h),
    fr_vE  (hM.on rfl) (sm_vE h),
    fr_vD  (hM.on rfl) (sm_vD h),
    fr_h1 (hC.on rfl) (hM.on rfl) (sm_h1 h),
    fr_h2 (hC.on rfl) (hM.on rfl) (sm_h2 h),
    fr_h3 (hC.on rfl) (hM.on rfl) (sm_h3 h),
    fr_h4 (hC.on rfl) (hM.on rfl) (sm_h4 h),
    fr_h5 (hC.on rfl) (hM.on rfl) (sm_h5 h),
    fr_z1  (hM.on rfl) (sm_z1 h),
    fr_z2  (hM.on rfl) (sm_z2 h),
    fr_z3  (hM.on rfl) (sm_z3 h),
    fr_e1 (hC.on rfl) (hM.on rfl) (sm_e1 h),
    fr_e2  (hM.on rfl) (sm_e2 h),
    fr_e3 (hC.on rfl) (hM.on rfl) (sm_e3 h),
    fr_o1  (hM.on rfl) (sm_o1 h),
    fr_o2 (hC.on rfl) (hM.on rfl) (sm_o2 h),
    fr_o3 (hC.on rfl) (hM.on rfl) (sm_o3 h),
    fr_o4 (hC.on rfl) (hM.on rfl) (sm_o4 h),
    fr_o5 (hC.on rfl) (hM.on rfl) (sm_o5 h),
    fr_o6  (hM.on rfl) (sm_o6 h),
    fr_g1 (hC.on rfl) (hM.on rfl) (sm_g1 h),
    fr_d1 (hC.on rfl) (hM.on rfl) (sm_d1 h),
    fr_t1 (hC.on rfl) (hM.on rfl) (sm_t1 h),
    fr_x1 hCt hMt (sm_x1 h),
    fr_a1 (hC.on rfl) (hM.on rfl) (sm_a1 h),
    fr_a2 (hC.on rfl) (hM.on rfl) (sm_a2 h),
    fr_p1 (hC.on rfl) (hM.on rfl) (sm_p1 h),
    fr_p2 (hC.on rfl) (hM.on rfl) (sm_p2 h)⟩
