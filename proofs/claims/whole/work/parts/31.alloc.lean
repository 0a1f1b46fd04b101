/-! making objects in a world, and copying rows -/
theorem Wd.kept {D : va_G} {cy : Nat → ClassId} {A : Nat → Prop} {cn : Nat → Nat} {ad : Nat → Nat → Nat} {M : Mem} {H H1 : Heap} (h : Wd D cy A cn ad M H) (hq : ∀ t i, i < cn t → (t < 13 ∨ 20 ≤ t) → H1[ad t i]? = H[ad t i]?) : Wd D cy A cn ad M H1 :=
  ⟨fun t i ht hi => (h.1 t i ht hi).kept (hq t i hi (Or.inl ht)), fun t i ht hi => (hq t i hi (Or.inr ht)).trans (h.2.1 t i ht hi), h.2.2.1, h.2.2.2.1, h.2.2.2.2⟩
theorem Wd.lt {D : va_G} {cy : Nat → ClassId} {A : Nat → Prop} {cn : Nat → Nat} {ad : Nat → Nat → Nat} {M : Mem} {H : Heap} (h : Wd D cy A cn ad M H) {t i : Nat} (hi : i < cn t) (ht : t < 13 ∨ 20 ≤ t) : ad t i < H.size := by
  rcases ht with ht | ht
  · obtain ⟨cell, h1, -⟩ := h.1 t i ht hi
    exact (Array.getElem?_eq_some_iff.mp h1).1
  · exact (Array.getElem?_eq_some_iff.mp (h.2.1 t i ht hi)).1
theorem Wd.grow {D : va_G} {cy : Nat → ClassId} {A : Nat → Prop} {cn cn' : Nat → Nat} {ad ad' : Nat → Nat → Nat} {M M' : Mem} {H : Heap} (h : Wd D cy A cn ad M H) (hcn : ∀ t, cn t ≤ cn' t) (had : ∀ t i, i < cn t → ad' t i = ad t i)
    (hF : ∀ t i k, i < cn t → t < 13 → k < nF t → fvk ad M t i k (oK t k) = fvk ad' M' t i k (oK t k)) (hAr : ∀ t i, i < cn t → 20 ≤ t → arc cy ad' M' t i = arc cy ad M t i)
    (hnO : ∀ t i, t < 13 → cn t ≤ i → i < cn' t → t_OB (ad' t i) (D.1 t) (nF t) (D.2 t) H (fun k => fvk ad' M' t i k (oK t k))) (hnA : ∀ t i, 20 ≤ t → cn t ≤ i → i < cn' t → H[ad' t i]? = some (arc cy ad' M' t i))
    (hinj : ∀ t i t' i', cn t ≤ i → i < cn' t → i' < cn' t' → ad' t i = ad' t' i' → t = t' ∧ i = i') (hA : ∀ t i, cn t ≤ i → i < cn' t → A (ad' t i))
    (hR : ∀ q ∈ rTab, ∀ i j o, mgR M' q.1 i j = some o → o < cn' q.2) : Wd D cy A cn' ad' M' H := by
  refine ⟨fun t i ht hi => ?_, fun t i ht hi => ?_, fun t i t' i' hi hi' e => ?_, fun t i hi => ?_, hR⟩
  · rcases Nat.lt_or_ge i (cn t) with hl | hl
    · rw [had t i hl]
      exact (h.1 t i ht hl).to (fun k hk => hF t i k hl ht hk)
    · exact hnO t i ht hl hi
  · rcases Nat.lt_or_ge i (cn t) with hl | hl
    · rw [had t i hl, hAr t i hl ht]
      exact h.2.1 t i ht hl
    · exact hnA t i ht hl hi
  · rcases Nat.lt_or_ge i (cn t) with hl | hl
    · rcases Nat.lt_or_ge i' (cn t') with hl' | hl'
      · rw [had t i hl, had t' i' hl'] at e
        exact h.2.2.1 t i t' i' hl hl' e
      · obtain ⟨e1, e2⟩ := hinj t' i' t i hl' hi' hi e.symm
        exact ⟨e1.symm, e2.symm⟩
    · exact hinj t i t' i' hl hi hi' e
  · rcases Nat.lt_or_ge i (cn t) with hl | hl
    · rw [had t i hl]
      exact h.2.2.2.1 t i hl
    · exact hA t i hl hi
/-- the addresses with one more stone, one more line -/
def adS (ad : Nat → Nat → Nat) (k q q2 : Nat) : Nat → Nat → Nat := fun t i => match t with
  | 8 => if i = k then q else ad 8 i
  | 40 => if i = k then q2 else ad 40 i
  | t' => ad t' i
def adL (ad : Nat → Nat → Nat) (k q : Nat) : Nat → Nat → Nat := fun t i => match t with
  | 4 => if i = k then q else ad 4 i
  | t' => ad t' i
theorem adS_ne (ad : Nat → Nat → Nat) (k q q2 t i : Nat) (h : (t = 8 ∨ t = 40) → i ≠ k) : adS ad k q q2 t i = ad t i := by
  unfold adS
  split
  · rw [if_neg (h (Or.inl rfl))]
  · rw [if_neg (h (Or.inr rfl))]
  · rfl
theorem adL_ne (ad : Nat → Nat → Nat) (k q t i : Nat) (h : t = 4 → i ≠ k) : adL ad k q t i = ad t i := by
  unfold adL
  split
  · rw [if_neg (h rfl)]
  · rfl
theorem adS_8 (ad : Nat → Nat → Nat) (k q q2 : Nat) : adS ad k q q2 8 k = q := by simp [adS]
theorem adS_40 (ad : Nat → Nat → Nat) (k q q2 : Nat) : adS ad k q q2 40 k = q2 := by simp [adS]
theorem adL_4 (ad : Nat → Nat → Nat) (k q : Nat) : adL ad k q 4 k = q := by simp [adL]
/-- the memory with one more stone -/
def mNS (M : Mem) (i0 : Nat) (n k mo a b : Int32) : Mem :=
  (fun f i j => if i = i0 ∧ f / 100 = 8 then (match f with | 800 => n | 801 => k | 802 => mo | 803 => a | 804 => b | 807 => -1 | 808 => -1 | _ => 0) else if i = i0 ∧ f = 4000 then 0 else M.1 f i j,
   fun f i j => if i = i0 ∧ f / 100 = 8 then 0 else M.2.1 f i j, fun f i j => if i = i0 ∧ f / 100 = 8 then none else M.2.2 f i j)
/-- the memory with one more line -/
def mNL (M : Mem) (i0 : Nat) (st on we se : Int32) (nx : Option Nat) : Mem :=
  (fun f i j => if i = i0 ∧ f / 100 = 4 then (match f with | 400 => st | 401 => on | 403 => we | 404 => se | _ => 0) else M.1 f i j, M.2.1,
   fun f i j => if i = i0 ∧ f = 402 then nx else M.2.2 f i j)
theorem cnC_S (nS nL t : Nat) : cnC nS nL t ≤ cnC (nS + 1) nL t := by
  unfold cnC
  repeat' split
  all_goals omega
theorem cnC_L (nS nL t : Nat) : cnC nS nL t ≤ cnC nS (nL + 1) t := by
  unfold cnC
  repeat' split
  all_goals omega
theorem cnC_Sn {nS nL t i : Nat} (h1 : cnC nS nL t ≤ i) (h2 : i < cnC (nS + 1) nL t) : (t = 8 ∨ t = 40) ∧ i = nS := by
  unfold cnC at h1 h2
  by_cases h8 : t = 8
  · simp [h8] at h1 h2
    exact ⟨Or.inl h8, by omega⟩
  · by_cases h40 : t = 40
    · simp [h40] at h1 h2
      exact ⟨Or.inr h40, by omega⟩
    · simp only [if_neg h8, if_neg h40] at h1 h2
      omega
theorem cnC_Ln {nS nL t i : Nat} (h1 : cnC nS nL t ≤ i) (h2 : i < cnC nS (nL + 1) t) : t = 4 ∧ i = nL := by
  unfold cnC at h1 h2
  by_cases h4 : t = 4
  · simp [h4] at h1 h2
    exact ⟨h4, by omega⟩
  · simp only [if_neg h4] at h1 h2
    omega
/-- no field of an object names a stone, its shares or a line by a fixed number; of a stone's own row the number is its own -/
theorem oK_r3 : ((List.range 13).all fun t => (List.range 58).all fun k => !((oK t k).1 == 3) || (!((oK t k).2.1 == 8) && (!((oK t k).2.1 == 40) && !((oK t k).2.1 == 4)))) = true := by decide +kernel
theorem oK_r2 : ((List.range 13).all fun t => (List.range 58).all fun k => !((oK t k).1 == 2) || (((oK t k).2.1 == 4) && ((100 * t + k == 402) || (100 * t + k == 813)))) = true := by decide +kernel
theorem oK_r4 : ((List.range 13).all fun t => (List.range 58).all fun k => !(Nat.blt 3 (oK t k).1) || (!((oK t k).2.1 == 8) && (!((oK t k).2.1 == 4) && (!((oK t k).2.1 == 40) || (t == 8))))) = true := by decide +kernel
theorem all2 {f : Nat → Nat → Bool} {n m : Nat} (h : ((List.range n).all fun t => (List.range m).all fun k => f t k) = true) {t k : Nat} (ht : t < n) (hk : k < m) : f t k = true :=
  List.all_eq_true.mp (List.all_eq_true.mp h t (List.mem_range.mpr ht)) k (List.mem_range.mpr hk)
theorem oK_ref (t : Nat) (ht : t < 13) (k : Nat) (hk : k < 58) : ((oK t k).1 = 3 → (oK t k).2.1 ≠ 8 ∧ (oK t k).2.1 ≠ 40 ∧ (oK t k).2.1 ≠ 4) ∧ ((oK t k).1 = 2 → (oK t k).2.1 = 4 ∧ (100 * t + k = 402 ∨ 100 * t + k = 813)) ∧ (3 < (oK t k).1 → (oK t k).2.1 ≠ 8 ∧ (oK t k).2.1 ≠ 4 ∧ ((oK t k).2.1 = 40 → t = 8)) := by
  have h3 := all2 oK_r3 ht hk
  have h2 := all2 oK_r2 ht hk
  have h4 := all2 oK_r4 ht hk
  refine ⟨fun e => ?_, fun e => ?_, fun e => ?_⟩
  · rw [e] at h3
    simpa using h3
  · rw [e] at h2
    simpa using h2
  · have e5 : Nat.blt 3 (oK t k).1 = true := Nat.blt_eq.mpr e
    rw [e5] at h4
    simp at h4
    refine ⟨h4.1, h4.2.1, fun e6 => ?_⟩
    rcases h4.2.2 with h | h
    · exact absurd e6 h
    · exact h
theorem cn_out (nS nL t : Nat) (h : 13 ≤ t) (h2 : t < 20) : cnC nS nL t = 0 := by
  unfold cnC
  simp only [if_neg (show ¬ t = 8 by omega), if_neg (show ¬ t = 40 by omega), if_neg (show ¬ t = 4 by omega), if_neg (show ¬ t = 10 by omega), if_neg (show ¬ t = 44 by omega), if_neg (show ¬ t < 12 by omega), if_neg (show ¬ (20 ≤ t ∧ t ≤ 43) by omega)]
theorem rTab_cases {q : Nat × Nat} (h : q ∈ rTab) : q = (402, 4) ∨ q = (813, 4) ∨ q = (3200, 8) ∨ q = (3300, 4) := by
  simpa [rTab] using h
theorem aT_cases (t : Nat) (h : 20 ≤ t) (h5 : aE t = 5 ∨ aE t = 6) : (t = 32 ∧ aG t = 8) ∨ (t = 33 ∧ aG t = 4) := by
  rcases Nat.lt_or_ge t 93 with hl | hl
  · have : ∀ t, t < 93 → 20 ≤ t → (aE t = 5 ∨ aE t = 6) → (t = 32 ∧ aG t = 8) ∨ (t = 33 ∧ aG t = 4) := by decide +kernel
    exact this t hl h h5
  · have hn : aTab[t - 20]? = none := List.getElem?_eq_none (by have e : aTab.length = 73 := by decide +kernel
                                                                rw [e]; omega)
    have : aE t = 0 := by rw [aE, List.getD_eq_getElem?_getD, hn]; rfl
    omega
theorem Wd.addStone {D : va_G} {cy : Nat → ClassId} {A : Nat → Prop} {nS nL : Nat} {ad : Nat → Nat → Nat} {M : Mem} {H : Heap} (h : Wd D cy A (cnC nS nL) ad M H) {q : Nat} {u : Nat → Nat} {n k mo a b : Int32} (hP : va_P D vwCl (res_X8 cy q n k mo a b u) H)
    (hd1 : ∀ t i, i < cnC nS nL t → ad t i ≠ q ∧ ad t i ≠ u 0) (hd2 : q ≠ u 0) (hAq : A q) (hAu : A (u 0)) : Wd D cy A (cnC (nS + 1) nL) (adS ad nS q (u 0)) (mNS M nS n k mo a b) H := by
  have hne : ∀ t i, i < cnC nS nL t → adS ad nS q (u 0) t i = ad t i := fun t i hi => adS_ne _ _ _ _ _ _ (fun ht => by
    rcases ht with rfl | rfl
    · have : i < nS := hi
      omega
    · have : i < nS := hi
      omega)
  refine h.grow (cnC_S nS nL) hne ?_ ?_ ?_ ?_ ?_ ?_ ?_
  · intro t i k' hi ht hk
    have hk58 : k' < 58 := Nat.lt_of_lt_of_le hk (nF_le t)
    have hnew : ¬ (i = nS ∧ (100 * t + k') / 100 = 8) := fun z => by
      have e : t = 8 := by omega
      subst e
      have : i < nS := hi
      omega
    have hn4 : ¬ (i = nS ∧ 100 * t + k' = 4000) := fun z => by omega
    obtain ⟨r3, r2, r4⟩ := oK_ref t ht k' hk58
    unfold fvk
    split
    · show Value.int _ = Value.int _
      congr 1
      simp only [mgI, mNS]
      rw [if_neg hnew, if_neg hn4]
    · show Value.long _ = Value.long _
      congr 1
      simp only [mgL, mNS]
      rw [if_neg hnew]
    · rename_i e2
      obtain ⟨g4, -⟩ := r2 e2
      rw [g4]
      simp only [mgR, mNS]
      rw [if_neg hnew]
      rfl
    · rename_i e3
      obtain ⟨g1, g2, -⟩ := r3 e3
      rw [adS_ne _ _ _ _ _ _ (fun z => by rcases z with z | z <;> contradiction)]
    · rename_i e0 e1 e2 e3
      obtain ⟨g1, g2, g3⟩ := r4 (by
        have a0 : (oK t k').1 ≠ 0 := by assumption
        have a1 : (oK t k').1 ≠ 1 := by assumption
        have a2 : (oK t k').1 ≠ 2 := by assumption
        have a3 : (oK t k').1 ≠ 3 := by assumption
        omega)
      rw [adS_ne _ _ _ _ _ _ (fun z => by
        rcases z with z | z
        · exact absurd z g1
        · have e : t = 8 := g3 z
          subst e
          have : i < nS := hi
          omega)]
  · intro t i hi ht
    have hnI : ∀ j, mgI (mNS M nS n k mo a b) (100 * t) i j = mgI M (100 * t) i j := fun j => by
      simp only [mgI, mNS]
      rw [if_neg (fun z => by omega), if_neg (fun z => by
        have e : t = 40 := by omega
        subst e
        have : i < nS := hi
        omega)]
    have hnL : ∀ j, mgL (mNS M nS n k mo a b) (100 * t) i j = mgL M (100 * t) i j := fun j => by
      simp only [mgL, mNS]
      rw [if_neg (fun z => by omega)]
    have hnR : ∀ j, mgR (mNS M nS n k mo a b) (100 * t) i j = mgR M (100 * t) i j := fun j => by
      simp only [mgR, mNS]
      rw [if_neg (fun z => by omega)]
    have hmap : (aE t = 5 ∨ aE t = 6) → ∀ j, (mgR (mNS M nS n k mo a b) (100 * t) i j).map (adS ad nS q (u 0) (aG t)) = (mgR M (100 * t) i j).map (ad (aG t)) := fun h5 j => by
      rw [hnR]
      cases hv : mgR M (100 * t) i j with
      | none => rfl
      | some z =>
        show some _ = some _
        congr 1
        rcases aT_cases t ht h5 with ⟨rfl, e⟩ | ⟨rfl, e⟩
        · rw [e]
          exact hne 8 z (h.2.2.2.2 (3200, 8) (by decide) i j z hv)
        · rw [e]
          exact hne 4 z (h.2.2.2.2 (3300, 4) (by decide) i j z hv)
    unfold arc
    split
    · simp only [hnL]
    · rename_i e5
      simp only [hmap (Or.inl e5)]
    · rename_i e6
      simp only [hmap (Or.inr e6)]
    · simp only [hnI]
  · intro t i ht h1 h2
    obtain ⟨h3, rfl⟩ := cnC_Sn h1 h2
    have e : t = 8 := by omega
    subst e
    have h0 := hP 0 _ rfl
    obtain ⟨r, hr, hob⟩ := h0
    cases hr
    rw [adS_8]
    refine hob.to (fun j hj => ?_)
    have hj' : j < 16 := hj
    rcases (show j = 0 ∨ j = 1 ∨ j = 2 ∨ j = 3 ∨ j = 4 ∨ j = 5 ∨ j = 6 ∨ j = 7 ∨ j = 8 ∨ j = 9 ∨ j = 10 ∨ j = 11 ∨ j = 12 ∨ j = 13 ∨ j = 14 ∨ j = 15 by omega) with rfl | rfl | rfl | rfl | rfl | rfl | rfl | rfl | rfl | rfl | rfl | rfl | rfl | rfl | rfl | rfl <;> simp [vp_V, fvk, oK, oTab, mgI, mgL, mgR, mNS, adS, rv, va_rf]
  · intro t i ht h1 h2
    obtain ⟨h3, rfl⟩ := cnC_Sn h1 h2
    have e : t = 40 := by omega
    subst e
    rw [adS_40]
    have h0 := hP 1 _ rfl
    refine Eq.trans h0 ?_
    exact congrArg (fun f => some (vp_cell (cy 0) (20, Sum.inl f))) (funext fun j => by simp [mgI, mNS])
  · intro t i t' i' h1 h2 h3 e
    obtain ⟨h4, rfl⟩ := cnC_Sn h1 h2
    rcases Nat.lt_or_ge i' (cnC i nL t') with hl | hl
    · rw [hne t' i' hl] at e
      obtain ⟨d1, d2⟩ := hd1 t' i' hl
      rcases h4 with rfl | rfl
      · rw [adS_8] at e
        exact absurd e.symm d1
      · rw [adS_40] at e
        exact absurd e.symm d2
    · obtain ⟨h5, rfl⟩ := cnC_Sn hl h3
      rcases h4 with rfl | rfl <;> rcases h5 with rfl | rfl
      · exact ⟨rfl, rfl⟩
      · rw [adS_8, adS_40] at e
        exact absurd e hd2
      · rw [adS_8, adS_40] at e
        exact absurd e.symm hd2
      · exact ⟨rfl, rfl⟩
  · intro t i h1 h2
    obtain ⟨h4, rfl⟩ := cnC_Sn h1 h2
    rcases h4 with rfl | rfl
    · rw [adS_8]; exact hAq
    · rw [adS_40]; exact hAu
  · intro q' hq' i j o ho
    have hle : ∀ t, o < cnC nS nL t → o < cnC (nS + 1) nL t := fun t hz => Nat.lt_of_lt_of_le hz (cnC_S nS nL t)
    have key : mgR M q'.1 i j = some o := by
      have ho2 := ho
      simp only [mgR, mNS] at ho2
      by_cases hc : i = nS ∧ q'.1 / 100 = 8
      · rw [if_pos hc] at ho2; cases ho2
      · rw [if_neg hc] at ho2; exact ho2
    exact hle _ (h.2.2.2.2 q' hq' i j o key)
theorem Wd.addLine {D : va_G} {cy : Nat → ClassId} {A : Nat → Prop} {nS nL : Nat} {ad : Nat → Nat → Nat} {M : Mem} {H : Heap} (h : Wd D cy A (cnC nS nL) ad M H) {q : Nat} {u : Nat → Nat} {st on we se : Int32} {nx : Option Nat} (hnx : ∀ z, nx = some z → z < nL) (hP : va_P D vwCl (res_X4 cy q st on we se (rv (ad 4) nx) u) H)
    (hd1 : ∀ t i, i < cnC nS nL t → ad t i ≠ q) (hAq : A q) : Wd D cy A (cnC nS (nL + 1)) (adL ad nL q) (mNL M nL st on we se nx) H := by
  have hne : ∀ t i, i < cnC nS nL t → adL ad nL q t i = ad t i := fun t i hi => adL_ne _ _ _ _ _ (fun ht => by
    subst ht
    have : i < nL := hi
    omega)
  have hrv : ∀ o : Option Nat, (∀ z, o = some z → z < nL) → rv (adL ad nL q 4) o = rv (ad 4) o := fun o ho => by
    cases o with
    | none => rfl
    | some z =>
      show Value.ref _ = Value.ref _
      congr 1
      exact hne 4 z (ho z rfl)
  refine h.grow (cnC_L nS nL) hne ?_ ?_ ?_ ?_ ?_ ?_ ?_
  · intro t i k' hi ht hk
    have hk58 : k' < 58 := Nat.lt_of_lt_of_le hk (nF_le t)
    have hnew : ¬ (i = nL ∧ (100 * t + k') / 100 = 4) := fun z => by
      have e : t = 4 := by omega
      subst e
      have : i < nL := hi
      omega
    have hnew2 : ¬ (i = nL ∧ 100 * t + k' = 402) := fun z => hnew ⟨z.1, by omega⟩
    obtain ⟨r3, r2, r4⟩ := oK_ref t ht k' hk58
    unfold fvk
    split
    · show Value.int _ = Value.int _
      congr 1
      simp only [mgI, mNL]
      rw [if_neg hnew]
    · rfl
    · rename_i e2
      obtain ⟨g4, g5⟩ := r2 e2
      rw [g4]
      have e : mgR (mNL M nL st on we se nx) (100 * t + k') i 0 = mgR M (100 * t + k') i 0 := by
        simp only [mgR, mNL]
        rw [if_neg hnew2]
      rw [e]
      refine (hrv _ (fun z hz => ?_)).symm
      rcases g5 with g5 | g5
      · exact h.2.2.2.2 (402, 4) (by decide) i 0 z (by rw [← g5]; exact hz)
      · exact h.2.2.2.2 (813, 4) (by decide) i 0 z (by rw [← g5]; exact hz)
    · rename_i e3
      obtain ⟨-, -, g1⟩ := r3 e3
      rw [adL_ne _ _ _ _ _ (fun z => absurd z g1)]
    · rename_i e0 e1 e2 e3
      obtain ⟨-, g2, -⟩ := r4 (by
        have a0 : (oK t k').1 ≠ 0 := by assumption
        have a1 : (oK t k').1 ≠ 1 := by assumption
        have a2 : (oK t k').1 ≠ 2 := by assumption
        have a3 : (oK t k').1 ≠ 3 := by assumption
        omega)
      rw [adL_ne _ _ _ _ _ (fun z => absurd z g2)]
  · intro t i hi ht
    have hnI : ∀ j, mgI (mNL M nL st on we se nx) (100 * t) i j = mgI M (100 * t) i j := fun j => by
      simp only [mgI, mNL]
      rw [if_neg (fun z => by omega)]
    have hnR : ∀ j, mgR (mNL M nL st on we se nx) (100 * t) i j = mgR M (100 * t) i j := fun j => by
      simp only [mgR, mNL]
      rw [if_neg (fun z => by omega)]
    have hmap : (aE t = 5 ∨ aE t = 6) → ∀ j, (mgR (mNL M nL st on we se nx) (100 * t) i j).map (adL ad nL q (aG t)) = (mgR M (100 * t) i j).map (ad (aG t)) := fun h5 j => by
      rw [hnR]
      cases hv : mgR M (100 * t) i j with
      | none => rfl
      | some z =>
        show some _ = some _
        congr 1
        rcases aT_cases t ht h5 with ⟨rfl, e⟩ | ⟨rfl, e⟩
        · rw [e]
          exact hne 8 z (h.2.2.2.2 (3200, 8) (by decide) i j z hv)
        · rw [e]
          exact hne 4 z (h.2.2.2.2 (3300, 4) (by decide) i j z hv)
    unfold arc
    split
    · rfl
    · rename_i e5
      simp only [hmap (Or.inl e5)]
    · rename_i e6
      simp only [hmap (Or.inr e6)]
    · simp only [hnI]
  · intro t i ht h1 h2
    obtain ⟨rfl, rfl⟩ := cnC_Ln h1 h2
    have h0 := hP 0 _ rfl
    obtain ⟨r, hr, hob⟩ := h0
    cases hr
    rw [adL_4]
    refine hob.to (fun j hj => ?_)
    have hj' : j < 6 := hj
    rcases (show j = 0 ∨ j = 1 ∨ j = 2 ∨ j = 3 ∨ j = 4 ∨ j = 5 by omega) with rfl | rfl | rfl | rfl | rfl | rfl
    · simp [vp_V, fvk, oK, oTab, mgI, mNL]
    · simp [vp_V, fvk, oK, oTab, mgI, mNL]
    · show rv (ad 4) nx = rv (adL ad i q 4) (mgR (mNL M i st on we se nx) 402 i 0)
      have e : mgR (mNL M i st on we se nx) 402 i 0 = nx := by simp [mgR, mNL]
      rw [e]
      exact (hrv nx hnx).symm
    · simp [vp_V, fvk, oK, oTab, mgI, mNL]
    · simp [vp_V, fvk, oK, oTab, mgI, mNL]
    · simp [vp_V, fvk, oK, oTab, mgI, mNL]
  · intro t i ht h1 h2
    obtain ⟨rfl, rfl⟩ := cnC_Ln h1 h2
    omega
  · intro t i t' i' h1 h2 h3 e
    obtain ⟨rfl, rfl⟩ := cnC_Ln h1 h2
    rcases Nat.lt_or_ge i' (cnC nS i t') with hl | hl
    · rw [hne t' i' hl, adL_4] at e
      exact absurd e.symm (hd1 t' i' hl)
    · obtain ⟨rfl, rfl⟩ := cnC_Ln hl h3
      exact ⟨rfl, rfl⟩
  · intro t i h1 h2
    obtain ⟨rfl, rfl⟩ := cnC_Ln h1 h2
    rw [adL_4]; exact hAq
  · intro q' hq' i j o ho
    have hle : ∀ t, o < cnC nS nL t → o < cnC nS (nL + 1) t := fun t hz => Nat.lt_of_lt_of_le hz (cnC_L nS nL t)
    have ho2 := ho
    simp only [mgR, mNL] at ho2
    by_cases hc : i = nL ∧ q'.1 = 402
    · rw [if_pos hc] at ho2
      have h4 : q'.2 = 4 := by
        rcases rTab_cases hq' with rfl | rfl | rfl | rfl
        · rfl
        · exact absurd hc.2 (by decide)
        · exact absurd hc.2 (by decide)
        · exact absurd hc.2 (by decide)
      rw [h4]
      exact Nat.lt_succ_of_lt (hnx o ho2)
    · rw [if_neg hc] at ho2
      exact hle _ (h.2.2.2.2 q' hq' i j o ho2)
