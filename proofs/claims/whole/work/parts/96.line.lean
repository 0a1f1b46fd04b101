/-! lines of a text, both sides -/
theorem itC_app : ∀ (L K : List (List Tok × List Tok)), itC (L ++ K) = itC L ++ itC K
  | [], K => rfl
  | x :: L, K => by
    show ((if x.1 = [] then [] else x.1 ++ [(5, 0)]) ++ (x.2 ++ [(6, 0)])) ++ itC (L ++ K) = ((if x.1 = [] then [] else x.1 ++ [(5, 0)]) ++ (x.2 ++ [(6, 0)])) ++ itC L ++ itC K
    rw [itC_app L K]
    simp only [List.append_assoc]
theorem acM_app : ∀ (L K : List (List Tok × List Tok)), acM (L ++ K) = acM L ++ acM K
  | [], K => rfl
  | x :: L, K => by
    show (x.1 ++ x.2) ++ acM (L ++ K) = (x.1 ++ x.2) ++ acM L ++ acM K
    rw [acM_app L K]
    simp only [List.append_assoc]
theorem lnm_cong {te le te' le' : Nat → Int32} : ∀ {m m' a : Nat} {L : List (List Tok × List Tok)}, lnm te le m a L → (∀ j, j < L.length → te' (m' + j) = te (m + j) ∧ le' (m' + j) = le (m + j)) → lnm te' le' m' a L
  | _, _, _, [], _, _ => trivial
  | m, m', a, x :: L, h, e => ⟨(e 0 (by simp)).1.trans h.1, (e 0 (by simp)).2.trans h.2.1, lnm_cong h.2.2 (fun j hj => by
      have := e (1 + j) (by simp; omega)
      simpa [Nat.add_assoc] using this)⟩
theorem lnm_app {te le : Nat → Int32} : ∀ {m a : Nat} {L : List (List Tok × List Tok)} {x : List Tok × List Tok}, lnm te le m a L → te (m + L.length) = nI (a + (acM L).length + x.1.length) → le (m + L.length) = nI (a + (acM L).length + x.1.length + x.2.length) → lnm te le m a (L ++ [x])
  | m, a, [], x, _, h1, h2 => ⟨by simpa [acM] using h1, by simpa [acM] using h2, trivial⟩
  | m, a, y :: L, x, h, h1, h2 => by
    refine ⟨h.1, h.2.1, lnm_app h.2.2 ?_ ?_⟩
    · have e : m + 1 + L.length = m + (y :: L).length := by simp; omega
      rw [e, h1]
      congr 1
      simp [acM]
      omega
    · have e : m + 1 + L.length = m + (y :: L).length := by simp; omega
      rw [e, h2]
      congr 1
      simp [acM]
      omega
theorem rdC_fr {C C' : Mem} (h : EqOff rdC C C' ∧ TxC C C') : FrC C C' := ⟨h.1.wide (by decide), h.2⟩
theorem rdM_fr {M M' : Mem} (h : EqOff rdM M M' ∧ LoM M M') : FrM M M' := by
  have k := h.1.on (K := [7900, 8000, 8100]) rfl
  exact ⟨h.1.wide (by decide), fun u _ => by rw [(k 7900 (by decide)).1], h.2, fun j _ => ⟨by rw [(k 8000 (by decide)).1], by rw [(k 8100 (by decide)).1]⟩⟩
theorem fr_8 {M0 M : Mem} (h : FrM M0 M) {f i j : Nat} {v : Int32} (hf : (f = 8000 ∨ f = 8100) ∧ 122 ≤ j ∨ f = 7900 ∧ 2 ≤ j) : FrM M0 (msI M f i j v) := by
  have hc : smL.contains f = true := by rcases hf with ⟨rfl | rfl, -⟩ | ⟨rfl, -⟩ <;> rfl
  refine h.trans ⟨EqOff.refl.I hc, fun u hu => ?_, fun k hk => ⟨?_, ?_⟩, fun k hk => ⟨?_, ?_⟩⟩ <;> rw [uI_I, if_neg (by omega)]
theorem TaB.fr {t : Nat} {B : Nat → Nat} {C M C' M' : Mem} (h : TaB t B C M) (hC : FrC C C') (hM : FrM M M') : TaB t B C' M' := by
  refine ⟨h.1, ?_, ?_, fun k hk => ⟨(h.2.2.2 k hk).1, ?_, ?_⟩⟩
  · rw [hC.i (f := 701) rfl]; exact h.2.1
  · rw [hM.i (f := 1233) rfl]; exact h.2.2.1
  · rw [hC.i (f := 3900) rfl]; exact (h.2.2.2 k hk).2.1
  · rw [hM.i (f := 7600) rfl]; exact (h.2.2.2 k hk).2.2
theorem sh_q : ∀ a, a < 131 → (nI a).toInt16.toInt32 = nI a := by decide +kernel
theorem sh_v : ∀ a, a < 131 → vp_nar .short (nI a) = nI a := fun a ha => by rw [vp_nar_short, sh_q a ha]
/-- both sides at the head of a line (e 0), or behind one (e 1) -/
def LSt (t : Nat) (B : Nat → Nat) (C0 M0 : Mem) (e p : Nat) (L : List (List Tok × List Tok)) (C M : Mem) : Prop :=
  (FrC C0 C ∧ FrM M0 M ∧ TaB t B C M ∧ p ≤ t) ∧ (mgI C 703 0 0 = nI p ∧ mgI C 704 0 0 = -1 ∧ mgI C 1001 2 0 = nI (itC L).length ∧ itm (mgI C 4400 2) 0 (itC L)) ∧
  (mgI M 1234 0 0 = nI p ∧ mgI M 1235 0 0 = -1 ∧ mgI M 1236 0 0 = nI 0 ∧ mgI M 1237 0 0 = nI (acM L).length ∧ acm (mgI M 7700 0) (mgI M 7800 0) 260 (acM L)) ∧ (mgI M 7900 0 2 = nI L.length ∧ lnm (mgI M 8000 0) (mgI M 8100 0) 122 0 L) ∧
  okL L ∧ (itC L).length ≤ p + e ∧ (acM L).length ≤ p ∧ 2 * L.length ≤ p + e
/-- both sides behind a fault at q -/
def LFt (t : Nat) (B : Nat → Nat) (C0 M0 : Mem) (q : Nat) (C M : Mem) : Prop := (FrC C0 C ∧ FrM M0 M ∧ TaB t B C M) ∧ q ≤ t ∧ mgI M 1235 0 0 = nI q ∧ (mgI C 704 0 0 = nI q ∨ (mgI C 704 0 0 = -1 ∧ mgI C 703 0 0 = nI q ∧ q < t ∧ 48 ≤ B q ∧ B q ≤ 57))
/-- the end of the reference's line -/
theorem end_q {M : Mem} {n a : Nat} (hn : n ≤ 60) (ha : a < 131) (h1 : mgI M 1237 0 0 = nI a) (h2 : mgI M 7900 0 2 = nI n) : (nm ((mgI M 1237 0 0).toInt16.toInt32) fun v7 => ix (nI (122 + n)) 183 <| nm (msI M 8100 0 (nI (122 + n)).toNatClampNeg (vp_nar .short v7)) fun M8 => nm ((mgI M8 7900 0 (2 : Int32).toNatClampNeg) + (1 : Int32)) fun v9 => nm (msI M8 7900 0 ((2 : Int32).toNatClampNeg) v9) fun M10 => (some ((), M10) : Option (Unit × Mem))) = some ((), msI (msI M 8100 0 (122 + n) (nI a)) 7900 0 2 (nI (n + 1))) := by
  rw [h1, sh_q a ha, nm_u, ix_n (show 122 + n < 183 by omega) (by omega), nI_clamp (by omega), cl_2]
  simp only [nm_u, uI_I, uL_L, uR_R, uI_L, uI_R, uL_I, uL_R, uR_I, uR_L, Nat.reduceEqDiff, false_and, and_false, true_and, and_true, ↓reduceIte]
  rw [h2, sh_v a ha, nI_1]
theorem end_r {M : Mem} {n a : Nat} (hn : n ≤ 60) (ha : a < 131) (h1 : mgI M 1237 0 0 = nI a) (h2 : mgI M 7900 0 2 = nI n) : ix (nI (122 + n)) 183 ((some ((), msI (msI M 8100 0 (122 + n) (vp_nar .short (mgI M 1237 0 0).toInt16.toInt32)) 7900 0 ((2 : Int32).toNatClampNeg) (mgI (msI M 8100 0 (122 + n) (vp_nar .short (mgI M 1237 0 0).toInt16.toInt32)) 7900 0 ((2 : Int32).toNatClampNeg) + (1 : Int32)))) : Option (Unit × Mem)) = some ((), msI (msI M 8100 0 (122 + n) (nI a)) 7900 0 2 (nI (n + 1))) := by
  rw [h1, sh_q a ha, ix_n (show 122 + n < 183 by omega) (by omega), cl_2, sh_v a ha]
  simp only [uI_I, uL_L, uR_R, uI_L, uI_R, uL_I, uL_R, uR_I, uR_L, Nat.reduceEqDiff, false_and, and_false, true_and, and_true, ↓reduceIte]
  rw [h2, nI_1]
theorem line_q {t : Nat} {B : Nat → Nat} {C0 M0 : Mem} {p : Nat} {L : List (List Tok × List Tok)} {C M : Mem} (h : LSt t B C0 M0 0 p L C M) : ∃ C' M', fX7_readLine C = some ((), C') ∧ fX12_readLine M = some ((), M') ∧ ((∃ p' x, p < p' ∧ LSt t B C0 M0 1 p' (L ++ [x]) C' M') ∨ ∃ q, LFt t B C0 M0 q C' M') := by
  obtain ⟨⟨fC, fM, hT, hp⟩, ⟨c1, c2, c3, c4⟩, ⟨m1, m2, m3, m4, m5⟩, ⟨n1, n2⟩, hL, b1, b2, b3⟩ := h
  have ht := hT.1
  have hn : L.length ≤ 60 := by omega
  have ha : (acM L).length < 131 := by omega
  -- the head of the line
  generalize hM3 : msI M 8000 0 (122 + L.length) (nI (acM L).length) = M3
  have e3 : EqOff [8000] M M3 := by subst hM3; exact EqOff.refl.I rfl
  have k3 := e3.on (K := [1233, 1234, 1235, 1236, 1237, 7700, 7800, 7900, 8100]) rfl
  have v3 : ∀ j, mgI M3 8000 0 j = if j = 122 + L.length then nI (acM L).length else mgI M 8000 0 j := fun j => by subst hM3; simp only [uI_I, uL_L, uR_R, uI_L, uI_R, uL_I, uL_R, uR_I, uR_L, Nat.reduceEqDiff, false_and, and_false, true_and, and_true, ↓reduceIte]
  have fM3 : FrM M0 M3 := by subst hM3; exact fr_8 fM (Or.inl ⟨Or.inl rfl, by omega⟩)
  have hT3 : TaB t B C M3 := hT.fr FrC.refl (by subst hM3; exact fr_8 FrM.refl (Or.inl ⟨Or.inl rfl, by omega⟩))
  have pc : PC C p (itC L) C := ⟨⟨EqOff.refl, TxC.refl⟩, c1, c2, c3, c4⟩
  have pm : PM M3 p 0 (acM L) M3 := ⟨⟨EqOff.refl, fun j hj => ⟨rfl, rfl⟩⟩, by rw [(k3 1234 (by decide)).1]; exact m1, by rw [(k3 1235 (by decide)).1]; exact m2, by rw [(k3 1236 (by decide)).1]; exact m3, by rw [(k3 1237 (by decide)).1]; exact m4, by rw [(k3 7700 (by decide)).1, (k3 7800 (by decide)).1]; exact m5⟩
  obtain ⟨C4, M4, g1, g2, g3⟩ := exp_q hT3 p (itC L) (acM L) C M3 hp (by omega) b2 pc pm
  have EM : fX12_readLine M = bE (fX12_eitherT M3) fun u4 M5 => if 0 ≤ (mgI M5 1235 0 0) then (nm ((mgI M5 1237 0 0).toInt16.toInt32) fun v7 => ix (nI (122 + L.length)) 183 <| nm (msI M5 8100 0 (nI (122 + L.length)).toNatClampNeg (vp_nar .short v7)) fun M8 => nm ((mgI M8 7900 0 (2 : Int32).toNatClampNeg) + (1 : Int32)) fun v9 => nm (msI M8 7900 0 ((2 : Int32).toNatClampNeg) v9) fun M10 => some ((), M10)) else (bd (fX12_look M5) fun b11 => if b11 = (63 : Int32) then (nm ((mgI M5 1234 0 0) + (1 : Int32)) fun v17 => nm (msI M5 1234 0 0 v17) fun M18 => nm ((mgI M18 1237 0 0).toInt16.toInt32) fun v19 => ix (nI (122 + L.length)) 183 <| nm (msI M18 8000 0 (nI (122 + L.length)).toNatClampNeg (vp_nar .short v19)) fun M20 => bE (fX12_eitherT M20) fun u21 M22 => nm ((mgI M22 1237 0 0).toInt16.toInt32) fun v23 => ix (nI (122 + L.length)) 183 <| nm (msI M22 8100 0 (nI (122 + L.length)).toNatClampNeg (vp_nar .short v23)) fun M24 => nm ((mgI M24 7900 0 (2 : Int32).toNatClampNeg) + (1 : Int32)) fun v25 => nm (msI M24 7900 0 ((2 : Int32).toNatClampNeg) v25) fun M26 => some ((), M26)) else (nm ((mgI M5 1237 0 0).toInt16.toInt32) fun v13 => ix (nI (122 + L.length)) 183 <| nm (msI M5 8100 0 (nI (122 + L.length)).toNatClampNeg (vp_nar .short v13)) fun M14 => nm ((mgI M14 7900 0 (2 : Int32).toNatClampNeg) + (1 : Int32)) fun v15 => nm (msI M14 7900 0 ((2 : Int32).toNatClampNeg) v15) fun M16 => some ((), M16))) := by
    unfold fX12_readLine
    rw [cl_2, n1, show (122 : Int32) = nI 122 from rfl, nI_add, m4, sh_q _ ha]
    rw [nm_u, nm_u, ix_n (show 122 + L.length < 183 by omega) (by omega), nI_clamp (by omega), sh_v _ ha, nm_u, hM3]
  have EC : fX7_readLine C = bE (fX7_readPartT (0 : Int32) (0 : Int32) C) fun u1 M2 => if 0 ≤ (mgI M2 704 0 0) then (bE (fX10_add 2 (-59 : Int32) M2) fun u4 M5 => some ((), M5)) else (bd (fX7_sees 9 M2) fun b6 => if b6 = 0 then (bE (fX10_add 2 (-59 : Int32) M2) fun u8 M9 => some ((), M9)) else (nm ((mgI M2 703 0 0) + (1 : Int32)) fun v10 => nm (msI M2 703 0 0 v10) fun M11 => bE (fX10_add 2 (-63 : Int32) M11) fun u12 M13 => bE (fX7_readPartT (0 : Int32) (0 : Int32) M13) fun u14 M15 => bE (fX10_add 2 (-59 : Int32) M15) fun u16 M17 => some ((), M17))) := rfl
  rw [EC, EM, g1, g2]
  simp only [bE_u]
  rcases g3 with ⟨l, p', w, q1, q2, q3, pc', pm'⟩ | ⟨q, a, hq, ha2, fc, fm⟩
  · have hB : p' < t → B p' < 256 := fun z => (hT.2.2.2 p' z).1
    have f4C := fC.trans (rdC_fr pc'.1)
    have f4M := fM3.trans (rdM_fr pm'.1)
    have hT4 : TaB t B C4 M4 := hT3.fr (rdC_fr pc'.1) (rdM_fr pm'.1)
    have k4 := (pm'.1.1).on (K := [7900, 8000, 8100]) rfl
    have la : (acM L ++ l).length = (acM L).length + l.length := List.length_append
    have lc : (itC L ++ l).length = (itC L).length + l.length := List.length_append
    rw [pc'.2.2.1, pm'.2.2.1, if_neg m1_ng, if_neg m1_ng, sees_q hT3 pc'.1.1 q3 pc'.2.1 (th := 9) (by omega), look_q hT3 pm'.1.1 q3 pm'.2.1]
    simp only [bd_u]
    cases z9 : sz t B p' 9 with
    | false =>
      have hl3 : ¬ lk t B p' = (63 : Int32) := fun e => by
        have h2 := (lk_s (s := 63) hB (by omega)).mp e
        have h3 : sz t B p' 9 = true := sz_t.mpr ⟨h2.1, show sgB 9 (B p') = true by rw [h2.2]; decide⟩
        rw [z9] at h3
        cases h3
      simp only [Bool.false_eq_true, if_false, if_true]
      rw [if_neg hl3]
      obtain ⟨C5, a1, a2⟩ := add_q pc' (by omega) (6, 0) (v := -59) rfl
      rw [a1, end_q hn (a := (acM L ++ l).length) (by omega) pm'.2.2.2.2.1 (by rw [(k4 7900 (by decide)).1, (k3 7900 (by decide)).1]; exact n1)]
      simp only [bE_u]
      generalize hM6 : msI (msI M4 8100 0 (122 + L.length) (nI (acM L ++ l).length)) 7900 0 2 (nI (L.length + 1)) = M6
      have e6 : EqOff [8100, 7900] M4 M6 := by subst hM6; exact (EqOff.refl.I rfl).I rfl
      have k6 := e6.on (K := [1234, 1235, 1236, 1237, 7700, 7800, 8000]) rfl
      have r6 : ∀ j, mgI M6 8100 0 j = if j = 122 + L.length then nI (acM L ++ l).length else mgI M4 8100 0 j := fun j => by subst hM6; simp only [uI_I, uL_L, uR_R, uI_L, uI_R, uL_I, uL_R, uR_I, uR_L, Nat.reduceEqDiff, false_and, and_false, true_and, and_true, ↓reduceIte]
      have f6 : FrM M4 M6 := by subst hM6; exact fr_8 (fr_8 FrM.refl (Or.inl ⟨Or.inr rfl, by omega⟩)) (Or.inr ⟨rfl, by omega⟩)
      refine ⟨C5, M6, rfl, rfl, Or.inl ⟨p', ([], l), q2, ⟨fC.trans (rdC_fr a2.1), f4M.trans f6, hT3.fr (rdC_fr a2.1) ((rdM_fr pm'.1).trans f6), q3⟩, ?_, ?_, ?_, ?_, ?_, ?_, ?_⟩⟩
      · have e : itC (L ++ [([], l)]) = itC L ++ l ++ [(6, 0)] := by rw [itC_app]; simp [itC]
        rw [e]
        exact ⟨a2.2.1, a2.2.2.1, a2.2.2.2.1, a2.2.2.2.2⟩
      · have e : acM (L ++ [([], l)]) = acM L ++ l := by rw [acM_app]; simp [acM]
        rw [e, (k6 1234 (by decide)).1, (k6 1235 (by decide)).1, (k6 1236 (by decide)).1, (k6 1237 (by decide)).1, (k6 7700 (by decide)).1, (k6 7800 (by decide)).1]
        exact pm'.2
      · refine ⟨by subst hM6; simp only [uI_I, uL_L, uR_R, uI_L, uI_R, uL_I, uL_R, uR_I, uR_L, Nat.reduceEqDiff, false_and, and_false, true_and, and_true, ↓reduceIte]; simp, lnm_app (lnm_cong n2 (fun j hj => ⟨?_, ?_⟩)) ?_ ?_⟩
        · rw [(k6 8000 (by decide)).1, (k4 8000 (by decide)).1, v3, if_neg (by omega)]
        · rw [r6, if_neg (by omega), (k4 8100 (by decide)).1, (k3 8100 (by decide)).1]
        · rw [(k6 8000 (by decide)).1, (k4 8000 (by decide)).1, v3, if_pos rfl]
          simp
        · rw [r6, if_pos rfl]
          simp
      · intro y hy
        rcases List.mem_append.mp hy with hy | hy
        · exact hL y hy
        · rw [List.mem_singleton.mp hy]
          exact ⟨Or.inl rfl, w⟩
      · rw [itC_app]
        simp [itC]
        omega
      · rw [acM_app]
        simp [acM]
        omega
      · simp
        omega
    | true =>
      obtain ⟨hpt, hb⟩ := sz_t.mp z9
      have e63 : B p' = 63 := by simpa [sgB, sgT] using hb
      have hl3 : lk t B p' = (63 : Int32) := (lk_s (s := 63) hB (by omega)).mpr ⟨hpt, e63⟩
      simp only [if_true]
      rw [if_neg one_ne, if_pos hl3, pc'.2.1, pm'.2.1, nI_1]
      simp only [nm_u]
      obtain ⟨C5, a1, a2⟩ := add_q (adC_q pc' (p' + 1)) (by omega) (5, 0) (v := -63) rfl
      rw [a1]
      simp only [bE_u]
      generalize hM7 : msI (msI M4 1234 0 0 (nI (p' + 1))) 8000 0 (122 + L.length) (nI (acM L ++ l).length) = M7
      have eM7 : (mgI (msI M4 1234 0 0 (nI (p' + 1))) 1237 0 0) = nI (acM L ++ l).length := by simp only [uI_I, uL_L, uR_R, uI_L, uI_R, uL_I, uL_R, uR_I, uR_L, Nat.reduceEqDiff, false_and, and_false, true_and, and_true, ↓reduceIte]; exact pm'.2.2.2.2.1
      rw [eM7, sh_q _ (show (acM L ++ l).length < 131 by omega), ix_n (show 122 + L.length < 183 by omega) (by omega), nI_clamp (by omega), sh_v _ (show (acM L ++ l).length < 131 by omega), hM7]
      have e7 : EqOff [1234, 8000] M4 M7 := by subst hM7; exact (EqOff.refl.I rfl).I rfl
      have k7 := e7.on (K := [1235, 1236, 1237, 7700, 7800, 7900, 8100]) rfl
      have r7 : ∀ j, mgI M7 8000 0 j = if j = 122 + L.length then nI (acM L ++ l).length else mgI M4 8000 0 j := fun j => by subst hM7; simp only [uI_I, uL_L, uR_R, uI_L, uI_R, uL_I, uL_R, uR_I, uR_L, Nat.reduceEqDiff, false_and, and_false, true_and, and_true, ↓reduceIte]
      have f7 : FrM M4 M7 := by subst hM7; exact fr_8 (FrM.refl.I rfl) (Or.inl ⟨Or.inl rfl, by omega⟩)
      have hT7 : TaB t B C5 M7 := hT3.fr (rdC_fr a2.1) ((rdM_fr pm'.1).trans f7)
      have pc7 : PC C5 (p' + 1) (itC L ++ l ++ [(5, 0)]) C5 := ⟨⟨EqOff.refl, TxC.refl⟩, a2.2⟩
      have pm7 : PM M7 (p' + 1) 0 (acM L ++ l) M7 := ⟨⟨EqOff.refl, fun j hj => ⟨rfl, rfl⟩⟩, by subst hM7; simp only [uI_I, uL_L, uR_R, uI_L, uI_R, uL_I, uL_R, uR_I, uR_L, Nat.reduceEqDiff, false_and, and_false, true_and, and_true, ↓reduceIte], by rw [(k7 1235 (by decide)).1]; exact pm'.2.2.1, by rw [(k7 1236 (by decide)).1]; exact pm'.2.2.2.1, by rw [(k7 1237 (by decide)).1]; exact pm'.2.2.2.2.1, by rw [(k7 7700 (by decide)).1, (k7 7800 (by decide)).1]; exact pm'.2.2.2.2.2⟩
      obtain ⟨C8, M8, s1, s2, s3⟩ := exp_q hT7 (p' + 1) (itC L ++ l ++ [(5, 0)]) (acM L ++ l) C5 M7 hpt (by simp; omega) (by omega) pc7 pm7
      rw [s1, s2]
      simp only [bE_u]
      rcases s3 with ⟨l', p2, w2, t1, t2, t3, pc2, pm2⟩ | ⟨q, a, hq, ha2, fc, fm⟩
      · have k8 := (pm2.1.1).on (K := [7900, 8000, 8100]) rfl
        have la2 : (acM L ++ l ++ l').length = (acM L).length + l.length + l'.length := by simp [Nat.add_assoc]
        have lc2 : (itC L ++ l ++ [(5, 0)] ++ l').length = (itC L).length + l.length + 1 + l'.length := by simp; omega
        obtain ⟨C9, b1', b2'⟩ := add_q pc2 (by omega) (6, 0) (v := -59) rfl
        rw [b1', end_r hn (a := (acM L ++ l ++ l').length) (by omega) pm2.2.2.2.2.1 (by rw [(k8 7900 (by decide)).1, (k7 7900 (by decide)).1, (k4 7900 (by decide)).1, (k3 7900 (by decide)).1]; exact n1)]
        simp only [bE_u]
        generalize hM6 : msI (msI M8 8100 0 (122 + L.length) (nI (acM L ++ l ++ l').length)) 7900 0 2 (nI (L.length + 1)) = M6
        have e6 : EqOff [8100, 7900] M8 M6 := by subst hM6; exact (EqOff.refl.I rfl).I rfl
        have k6 := e6.on (K := [1234, 1235, 1236, 1237, 7700, 7800, 8000]) rfl
        have r6 : ∀ j, mgI M6 8100 0 j = if j = 122 + L.length then nI (acM L ++ l ++ l').length else mgI M8 8100 0 j := fun j => by subst hM6; simp only [uI_I, uL_L, uR_R, uI_L, uI_R, uL_I, uL_R, uR_I, uR_L, Nat.reduceEqDiff, false_and, and_false, true_and, and_true, ↓reduceIte]
        have f6 : FrM M8 M6 := by subst hM6; exact fr_8 (fr_8 FrM.refl (Or.inl ⟨Or.inr rfl, by omega⟩)) (Or.inr ⟨rfl, by omega⟩)
        have hw := w.pos
        have hne := w.ne
        refine ⟨C9, M6, rfl, rfl, Or.inl ⟨p2, (l, l'), by omega, ⟨(fC.trans (rdC_fr a2.1)).trans (rdC_fr b2'.1), ((f4M.trans f7).trans (rdM_fr pm2.1)).trans f6, hT7.fr (rdC_fr b2'.1) ((rdM_fr pm2.1).trans f6), t3⟩, ?_, ?_, ?_, ?_, ?_, ?_, ?_⟩⟩
        · have e : itC (L ++ [(l, l')]) = itC L ++ l ++ [(5, 0)] ++ l' ++ [(6, 0)] := by rw [itC_app]; simp [itC, hne]
          rw [e]
          exact ⟨b2'.2.1, b2'.2.2.1, b2'.2.2.2.1, b2'.2.2.2.2⟩
        · have e : acM (L ++ [(l, l')]) = acM L ++ l ++ l' := by rw [acM_app]; simp [acM]
          rw [e, (k6 1234 (by decide)).1, (k6 1235 (by decide)).1, (k6 1236 (by decide)).1, (k6 1237 (by decide)).1, (k6 7700 (by decide)).1, (k6 7800 (by decide)).1]
          exact pm2.2
        · refine ⟨by subst hM6; simp only [uI_I, uL_L, uR_R, uI_L, uI_R, uL_I, uL_R, uR_I, uR_L, Nat.reduceEqDiff, false_and, and_false, true_and, and_true, ↓reduceIte]; simp, lnm_app (lnm_cong n2 (fun j hj => ⟨?_, ?_⟩)) ?_ ?_⟩
          · rw [(k6 8000 (by decide)).1, (k8 8000 (by decide)).1, r7, if_neg (by omega), (k4 8000 (by decide)).1, v3, if_neg (by omega)]
          · rw [r6, if_neg (by omega), (k8 8100 (by decide)).1, (k7 8100 (by decide)).1, (k4 8100 (by decide)).1, (k3 8100 (by decide)).1]
          · rw [(k6 8000 (by decide)).1, (k8 8000 (by decide)).1, r7, if_pos rfl, la]
            simp
          · rw [r6, if_pos rfl, la2]
            simp
        · intro y hy
          rcases List.mem_append.mp hy with hy | hy
          · exact hL y hy
          · rw [List.mem_singleton.mp hy]
            exact ⟨Or.inr w, w2⟩
        · have e : (itC (L ++ [(l, l')])).length = (itC L).length + l.length + 1 + l'.length + 1 := by rw [itC_app]; simp [itC, hne]; omega
          omega
        · have e : (acM (L ++ [(l, l')])).length = (acM L).length + l.length + l'.length := by rw [acM_app]; simp [acM]; omega
          omega
        · simp
          omega
      · obtain ⟨C9, b1', b2'⟩ := addF_q fc (-59)
        have hk8 := (fm.1.1).on (K := [7900]) rfl
        rw [b1', end_r hn (a := a) (by omega) fm.2.2.1 (by rw [(hk8 7900 (by decide)).1, (k7 7900 (by decide)).1, (k4 7900 (by decide)).1, (k3 7900 (by decide)).1]; exact n1)]
        simp only [bE_u]
        have f6 : FrM M8 (msI (msI M8 8100 0 (122 + L.length) (nI a)) 7900 0 2 (nI (L.length + 1))) := fr_8 (fr_8 FrM.refl (Or.inl ⟨Or.inr rfl, by omega⟩)) (Or.inr ⟨rfl, by omega⟩)
        refine ⟨C9, _, rfl, rfl, Or.inr ⟨q, ⟨(fC.trans (rdC_fr a2.1)).trans (rdC_fr b2'.1), ((f4M.trans f7).trans (rdM_fr fm.1)).trans f6, hT7.fr (rdC_fr b2'.1) ((rdM_fr fm.1).trans f6)⟩, hq, by simp only [uI_I, uL_L, uR_R, uI_L, uI_R, uL_I, uL_R, uR_I, uR_L, Nat.reduceEqDiff, false_and, and_false, true_and, and_true, ↓reduceIte]; exact fm.2.1, b2'.2.2⟩⟩
  · have hge := fm.ge hq ht
    rw [if_pos hge]
    have hk4 := (fm.1.1).on (K := [7900]) rfl
    rw [end_q hn (a := a) (by omega) fm.2.2.1 (by rw [(hk4 7900 (by decide)).1, (k3 7900 (by decide)).1]; exact n1)]
    have f6 : FrM M4 (msI (msI M4 8100 0 (122 + L.length) (nI a)) 7900 0 2 (nI (L.length + 1))) := fr_8 (fr_8 FrM.refl (Or.inl ⟨Or.inr rfl, by omega⟩)) (Or.inr ⟨rfl, by omega⟩)
    obtain ⟨C5, a1, a2⟩ := addF_q fc (-59)
    have eC : (if 0 ≤ (mgI C4 704 0 0) then (bE (fX10_add 2 (-59 : Int32) C4) fun u4 M5 => some ((), M5)) else (bd (fX7_sees 9 C4) fun b6 => if b6 = 0 then (bE (fX10_add 2 (-59 : Int32) C4) fun u8 M9 => some ((), M9)) else (nm ((mgI C4 703 0 0) + (1 : Int32)) fun v10 => nm (msI C4 703 0 0 v10) fun M11 => bE (fX10_add 2 (-63 : Int32) M11) fun u12 M13 => bE (fX7_readPartT (0 : Int32) (0 : Int32) M13) fun u14 M15 => bE (fX10_add 2 (-59 : Int32) M15) fun u16 M17 => some ((), M17))) : Option (Unit × Mem)) = some ((), C5) := by
      rw [a1]
      simp only [bE_u]
      rcases fc.stop hT3 hq (th := 9) (by omega) (by omega) with h1 | ⟨h1, h2⟩
      · rw [if_pos h1]
      · rw [if_neg h1, h2, bd_u, if_pos rfl]
    rw [eC]
    exact ⟨C5, _, rfl, rfl, Or.inr ⟨q, ⟨fC.trans (rdC_fr a2.1), (fM3.trans (rdM_fr fm.1)).trans f6, hT3.fr (rdC_fr a2.1) ((rdM_fr fm.1).trans f6)⟩, hq, by simp only [uI_I, uL_L, uR_R, uI_L, uI_R, uL_I, uL_R, uR_I, uR_L, Nat.reduceEqDiff, false_and, and_false, true_and, and_true, ↓reduceIte]; exact fm.2.1, a2.2.2⟩⟩
