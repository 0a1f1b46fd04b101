/-! citings -/
theorem lg_ge (x y : Int64) : 0 ≤ lg_cmp x y ↔ ¬ x < y := by
  unfold lg_cmp
  by_cases h : x > y
  · rw [if_pos h]
    exact ⟨fun _ w => absurd (Int64.lt_trans w h) Int64.lt_irrefl, fun _ => by decide⟩
  · rw [if_neg h]
    by_cases h2 : x = y
    · rw [if_pos h2]; exact ⟨fun _ => by rw [h2]; exact Int64.lt_irrefl, fun _ => by decide⟩
    · rw [if_neg h2]
      refine ⟨fun w => absurd w (by decide), fun w => ?_⟩
      exact absurd (Int64.le_antisymm (Int64.not_lt.mp h) (Int64.not_lt.mp w)) h2
theorem lg_lt (x y : Int64) : lg_cmp x y < 0 ↔ x < y := by
  rw [← Int32.not_le, lg_ge, Decidable.not_not]
theorem nI_lN {n : Nat} (h : n < 2 ^ 31) : (nI n).toInt64 = lN n := by
  rw [← Int64.toInt_inj, Int32.toInt_toInt64, nI_toInt h, lN_toInt h]
theorem isRow_1 {C : Mem} {q e : Nat} (hq : q < 6) (he : e ≤ 4) (h : mgI C 3500 0 q = nI e) : fX6_isRow (nI q) C = some 1 := by
  unfold fX6_isRow
  rw [ix_n hq (by omega), ix_n hq (by omega), nI_clamp (by omega), h, if_neg (nI_pos (by omega)), if_neg (show ¬ (4 : Int32) < nI e from nI_nlt (b := e) (a := 4) he (by omega))]
theorem hasE_q {C : Mem} {q e z k : Nat} (hq : q < 6) (he : e ≤ 4) (h : mgI C 3500 0 q = nI e) (hz : mgI C 3600 0 q = nI z) (hz6 : z ≤ 60) (hk : k < 2 ^ 31) : fX6_hasElement (nI q) (nI k) C = some (if k < z then 1 else 0) := by
  unfold fX6_hasElement
  rw [isRow_1 hq he h]
  simp only [bd_u, if_neg one_ne]
  rw [if_neg (nI_pos hk), ix_n hq (by omega), nI_clamp (by omega), hz]
  by_cases e1 : k < z
  · rw [if_pos e1, if_neg (nI_ge e1 (by omega))]
  · rw [if_neg e1, if_pos (nI_le (by omega) hk)]
theorem byO_q {C : Mem} {q e z k : Nat} (hq : q < 6) (he : e ≤ 4) (h : mgI C 3500 0 q = nI e) (hz : mgI C 3600 0 q = nI z) (hz6 : z ≤ 60) (hk : k < 2 ^ 31) : fX11_byteOr (nI q) (nI k) (-1 : Int32) C = some (if k < z then (mgL C 3800 0 (60 * q + k)).toInt32 else -1) := by
  unfold fX11_byteOr
  rw [hasE_q hq he h hz hz6 hk]
  simp only [bd_u]
  by_cases e1 : k < z
  · rw [if_pos e1, if_pos e1, if_neg one_ne]
    unfold fX6_at
    have i1 : nI q * (60 : Int32) + nI k = nI (60 * q + k) := by rw [show (60 : Int32) = nI 60 from rfl, pk_mul, nI_add, Nat.mul_comm]
    rw [i1, ix_n (by omega) (by omega), nI_clamp (by omega)]
    rfl
  · rw [if_neg e1, if_neg e1, if_pos rfl]
theorem l44 (x4 x3 x2 : Int32) (a2 : Nat) : ∀ m, fX11_citings_l93_44 x4 x3 x2 a2 m = fX11_citings_l93 x4 x3 x2 a2 m
  | 0 => rfl
  | m + 1 => by
    funext i M n l
    show fX11_citings_b93_44 x4 x3 x2 a2 (fX11_citings_l93_44 x4 x3 x2 a2 m) i M n l = fX11_citings_b93 x4 x3 x2 a2 (fX11_citings_l93 x4 x3 x2 a2 m) i M n l
    rw [l44 x4 x3 x2 a2 m]
    rfl
theorem l37 (x4 x3 x2 x1 : Int32) : ∀ m, fX12_citings_l77_37 x4 x3 x2 x1 m = fX12_citings_l77 x4 x3 x2 x1 m
  | 0 => rfl
  | m + 1 => by
    funext i M
    show fX12_citings_b77_37 x4 x3 x2 x1 (fX12_citings_l77_37 x4 x3 x2 x1 m) i M = fX12_citings_b77 x4 x3 x2 x1 (fX12_citings_l77 x4 x3 x2 x1 m) i M
    rw [l37 x4 x3 x2 x1 m]
    rfl
set_option maxHeartbeats 4000000 in
theorem ct_l {q z a c s e : Nat} (hq : q < 6) (he : e ≤ 4) (hz : z ≤ 60) (ha : a < z) (hc : c ≤ 20) : ∀ (d i : Nat) (C M : Mem) (nS nL : Nat), i + d = c → Sim C M nS nL → s < nS → mgI C 3600 0 q = nI z → mgI C 3500 0 q = nI e → mgI M 9000 0 q = nI z → ∀ m m', d < m → d < m' → QB (fX11_citings_l93 (nI c) (nI a) (nI q) s m (nI i) C nS nL) (fX12_citings_l77 (nI c) (nI a) (nI q) (nI s) m' (nI i) M) := by
  intro d
  induction d with
  | zero =>
    intro i C M nS nL hi h hs g1 g2 g3 m m' hm hm'
    obtain ⟨m, rfl⟩ : ∃ k, m = k + 1 := ⟨m - 1, by omega⟩
    obtain ⟨m', rfl⟩ : ∃ k, m' = k + 1 := ⟨m' - 1, by omega⟩
    simp only [fX11_citings_l93, fX11_citings_b93, fX12_citings_l77, fX12_citings_b77]
    rw [if_pos (nI_le (a := c) (b := i) (by omega) (by omega)), if_pos (nI_le (a := c) (b := i) (by omega) (by omega))]
    exact QB_same h rfl rfl
  | succ d ih =>
    intro i C M nS nL hi h hs g1 g2 g3 m m' hm hm'
    obtain ⟨m, rfl⟩ : ∃ k, m = k + 1 := ⟨m - 1, by omega⟩
    obtain ⟨m', rfl⟩ : ∃ k, m' = k + 1 := ⟨m' - 1, by omega⟩
    have hb : nS ≤ 64 ∧ nL ≤ 200 := sm_b1 h
    simp only [fX11_citings_l93, fX11_citings_b93, fX12_citings_l77, fX12_citings_b77]
    rw [if_neg (nI_ge (show i < c by omega) (by omega)), if_neg (nI_ge (show i < c by omega) (by omega))]
    simp only [nm_u]
    have j1 : nI a + (3 : Int32) * nI i = nI (a + 3 * i) := by rw [show (3 : Int32) = nI 3 from rfl, pk_mul, nI_add]
    have j2 : (nI a).toInt64 + ((3 : Int32) * nI i).toInt64 = lN (a + 3 * i) := by rw [show (3 : Int32) = nI 3 from rfl, pk_mul, nI_lN (by omega), nI_lN (by omega), lN_add]
    rw [j1, j2]
    have hv : a + 3 * i < 200 := by omega
    generalize a + 3 * i = v at hv ⊢
    rw [show nI v + (1 : Int32) = nI (v + 1) from nI_1 v, show nI v + (2 : Int32) = nI (v + 2) from nI_add v 2]
    rw [byO_q hq he g2 g1 hz (show v < 2 ^ 31 by omega)]
    simp only [bd_u]
    rw [byO_q hq he g2 g1 hz (show v + 1 < 2 ^ 31 by omega)]
    simp only [bd_u]
    rw [byO_q hq he g2 g1 hz (show v + 2 < 2 ^ 31 by omega)]
    simp only [bd_u]
    rw [if_neg (show ¬ lg_cmp (lN v) (0 : Int64) < 0 from fun w => by rw [lg_lt] at w; have := (lN_lt (a := v) (b := 0) (by omega) (by omega)).mp w; omega)]
    rw [ix_n hq (by omega), nI_clamp (by omega), g3, nI_lN (show z < 2 ^ 31 by omega)]
    by_cases e1 : v < z
    · rw [if_pos e1, if_neg (show ¬ 0 ≤ lg_cmp (lN v) (lN z) from fun w => (lg_ge _ _).mp w ((lN_lt (by omega) (by omega)).mpr e1))]
      rw [sm_p2 h _ (show 60 * q + v < 360 by omega), lN_i, show (60 : Int32) * nI q + nI v = nI (60 * q + v) by rw [show (60 : Int32) = nI 60 from rfl, pk_mul, nI_add]]
      rw [ix_n (show 60 * q + v < 360 by omega) (by omega), nI_clamp (show 60 * q + v < 2 ^ 31 by omega), (sm_c1 h).2, (sm_c2 h).2]
      rcases mst_q h hs ((mgL M 9100 0 (60 * q + v)).toInt32) with ⟨o, ho, eo, f1, f2⟩ | ⟨f1, f2⟩
      · rw [f1, f2]
        simp only [bd_u, if_neg one_ne]
        rw [eo]
        by_cases hl : nL < 200
        · rw [if_pos (show nI nL < 200 from nI_lt (b := 200) hl (by omega)), if_neg (show ¬ nI nL = 200 from fun w => by have := (nI_eq (a := nL) (b := 200) (by omega) (by omega)).mp w; omega)]
          have hM2 : ∀ st on we se, mgI (adL2 M nL st on we se) 9000 0 q = nI z := fun st on we se => by
            have hM : EqOff [5900, 6000, 6100, 6200, 1212] M (adL2 M nL st on we se) := b2_P
            rw [(hM.on (K := [9000]) rfl 9000 (by decide)).1]
            exact g3
          have hdef : ∀ (x : Option ((Int32 × Nat × Nat) × Mem)) (y : Option (Int32 × Mem)), x = (bE (fX5_addLine nS nL (some s) (nI o) (1 : Int32) (2 : Int32) C) fun b28 M29 => some ((nI (i + 1), b28.2.1, b28.2.2), M29)) → y = (bE (fX12_addLine (nI s) (nI o) (1 : Int32) (2 : Int32) M) fun b22 M23 => some (nI (i + 1), M23)) → QB x y := fun x y hx hy => by
            obtain ⟨C', z1, z2, -⟩ := addL_q h hl hs ho (show 1 ≤ 1 by omega) (show 1 ≤ 99 by omega) (show 2 ≤ 2 by omega)
            rw [show (1 : Int32) = nI 1 from rfl, show (2 : Int32) = nI 2 from rfl] at hx hy
            rw [z1] at hx
            rw [addM_q (sm_c2 h).2 hl] at hy
            simp only [bE_u] at hx hy
            exact ⟨_, _, _, _, _, hx, hy, z2⟩
          rw [ix_n hq (by omega), show (lN v + (2 : Int64)) = lN (v + 2) from lN_add v 2]
          simp only [nI_1]
          have i2 : ∀ y, fX11_isWeight y = fX12_in y 1 99 := fun y => rfl
          have i1 : ∀ y, fX11_isSense y = fX12_in y 0 2 := fun y => rfl
          by_cases e2 : v + 2 < z
          · rw [if_neg (show ¬ 0 ≤ lg_cmp (lN (v + 2)) (lN z) from fun w => (lg_ge _ _).mp w ((lN_lt (by omega) (by omega)).mpr e2)), if_pos (show v + 1 < z by omega), if_pos e2]
            rw [sm_p2 h _ (show 60 * q + (v + 1) < 360 by omega), sm_p2 h _ (show 60 * q + (v + 2) < 360 by omega)]
            rw [show 60 * q + v + 1 = 60 * q + (v + 1) by omega, show nI (60 * q + v) + (2 : Int32) = nI (60 * q + (v + 2)) from nI_add (60 * q + v) 2]
            simp only [ix_n (show 60 * q + v < 360 by omega) (show 360 < 2 ^ 31 by omega), ix_n (show 60 * q + (v + 1) < 360 by omega) (show 360 < 2 ^ 31 by omega), ix_n (show 60 * q + (v + 2) < 360 by omega) (show 360 < 2 ^ 31 by omega), nI_clamp (show 60 * q + (v + 1) < 2 ^ 31 by omega), nI_clamp (show 60 * q + (v + 2) < 2 ^ 31 by omega), i1, i2]
            rcases in01 ((mgL M 9100 0 (60 * q + (v + 1))).toInt32) 1 99 with w1 | w1
            · rw [w1, if_pos rfl, if_pos rfl]
              exact hdef _ _ rfl rfl
            · rw [w1, if_neg one_ne, if_neg one_ne]
              rcases in01 ((mgL M 9100 0 (60 * q + (v + 2))).toInt32) 0 2 with w2 | w2
              · rw [w2, if_pos rfl, if_pos rfl]
                exact hdef _ _ rfl rfl
              · rw [w2, if_neg one_ne, if_neg one_ne]
                obtain ⟨e', x1, x2, x3⟩ := in1 (a := 0) (b := 2) w2 (by omega) (by omega)
                obtain ⟨w', y1, y2, y3⟩ := in1 (a := 1) (b := 99) w1 (by omega) (by omega)
                rw [x3, y3]
                obtain ⟨C', z1, z2, z3⟩ := addL_q h hl hs ho y1 y2 x2
                rw [z1, addM_q (sm_c2 h).2 hl]
                simp only [bE_u]
                exact ih (i + 1) C' _ nS (nL + 1) (by omega) z2 hs (by rw [(z3.on (K := [3600]) rfl 3600 (by decide)).1]; exact g1) (by rw [(z3.on (K := [3500]) rfl 3500 (by decide)).1]; exact g2) (hM2 _ _ _ _) m m' (by omega) (by omega)
          · rw [if_pos (show 0 ≤ lg_cmp (lN (v + 2)) (lN z) from (lg_ge _ _).mpr (fun w => e2 ((lN_lt (by omega) (by omega)).mp w))), if_neg e2]
            have i3 : fX11_isSense (-1) = 0 := by decide
            rw [i3]
            simp only [↓reduceIte, ite_self]
            exact hdef _ _ rfl (ix_n (show 60 * q + v < 360 by omega) (by omega))
        · have : nL = 200 := by omega
          subst this
          rw [if_neg (show ¬ nI 200 < 200 by decide), if_pos (show nI 200 = 200 from rfl)]
          exact QB_same h rfl rfl
      · rw [f1, f2]
        simp only [bd_u, ↓reduceIte, ite_self]
        exact QB_same h rfl rfl
    · rw [if_neg e1, if_pos (show 0 ≤ lg_cmp (lN v) (lN z) from (lg_ge _ _).mpr (fun w => e1 ((lN_lt (by omega) (by omega)).mp w)))]
      rcases mst_q h hs (-1) with ⟨o, ho, eo, f1, f2⟩ | ⟨f1, f2⟩
      · exact absurd eo.symm (s_f o (by omega)).1
      · rw [f1]
        simp only [bd_u, ↓reduceIte]
        exact QB_same h rfl rfl
theorem cit_0 {M : Mem} {q z c : Nat} (hq : q < 6) (hz : z ≤ 60) (hc : 1 ≤ c) (hc2 : c ≤ 20) (g3 : mgI M 9000 0 q = nI z) (x1 : Int32) {a3 : Int32} (ha : a3 < 0 ∨ ∃ a, a < 2 ^ 31 ∧ a3 = nI a ∧ z ≤ a) : fX12_citings_l77 (nI c) a3 (nI q) x1 FU (0 : Int32) M = some (0, M) := by
  obtain ⟨m, hm⟩ : ∃ m, FU = m + 1 := ⟨FU - 1, by have := FU_lt (N := 5) (by omega); omega⟩
  rw [hm]
  simp only [fX12_citings_l77, fX12_citings_b77, nm_u]
  rw [if_neg (show ¬ nI c ≤ (0 : Int32) from nI_ge (a := 0) (show 0 < c by omega) (by omega))]
  have j2 : a3.toInt64 + ((3 : Int32) * 0).toInt64 = a3.toInt64 := by
    rw [show ((3 : Int32) * 0).toInt64 = 0 from rfl, Int64.add_zero]
  rw [j2]
  rcases ha with ha | ⟨a, ha, rfl, hza⟩
  · rw [if_pos (show lg_cmp a3.toInt64 (0 : Int64) < 0 from by
      rw [lg_lt, Int64.lt_iff_toInt_lt, Int32.toInt_toInt64]
      exact Int32.lt_iff_toInt_lt.mp ha)]
  · rw [nI_lN ha]
    rw [if_neg (show ¬ lg_cmp (lN a) (0 : Int64) < 0 from fun w => by rw [lg_lt] at w; have := (lN_lt (a := a) (b := 0) (by omega) (by omega)).mp w; omega)]
    rw [ix_n hq (by omega), nI_clamp (by omega), g3, nI_lN (show z < 2 ^ 31 by omega), if_pos (show 0 ≤ lg_cmp (lN a) (lN z) from (lg_ge _ _).mpr (fun w => by have := (lN_lt (by omega) (by omega)).mp w; omega))]
set_option maxHeartbeats 4000000 in
theorem qs_citings {C M : Mem} {nS nL : Nat} (h : Sim C M nS nL) (a1 a2 a3 a4 : Int32) : QB (fX11_citings nS nL a1 a2 a3 a4 C) (fX12_citings a1 a2 a3 a4 M) := by
  have hb : nS ≤ 64 ∧ nL ≤ 200 := sm_b1 h
  unfold fX11_citings fX12_citings
  simp only [nm_u]
  rcases st_c h a1 with ⟨s, hs, -, rfl, e1, e2⟩ | ⟨e1, e2⟩
  · rw [e1, e2]
    simp only [bd_u, oc_SU, if_neg one_ne]
    rw [ix_n (show s < 64 by omega) (by omega), nI_clamp (show s < 2 ^ 31 by omega), sm_sK h s hs]
    by_cases e3 : mgI M 5000 0 s = 1
    · rw [if_pos e3, if_pos e3]
      exact QB_same h rfl rfl
    · rw [if_neg e3, if_neg e3]
      rcases pl_c a2 with ⟨q, hq, rfl, e4, e5⟩ | ⟨e4, e5⟩
      · rw [e4, e5, if_neg one_ne, if_neg one_ne]
        have hin : (fX12_in a4 1 20 = 0 ∧ (a4 < 1 ∨ (¬ a4 < 1 ∧ ¬ a4 ≤ 20))) ∨ (fX12_in a4 1 20 = 1 ∧ ¬ a4 < 1 ∧ a4 ≤ 20 ∧ ∃ c, c ≤ 20 ∧ a4 = nI c) := by
          unfold fX12_in
          by_cases x1 : a4 < 1
          · rw [if_pos x1]; exact Or.inl ⟨rfl, Or.inl x1⟩
          · rw [if_neg x1]
            by_cases x2 : (20 : Int32) < a4
            · rw [if_pos x2]; exact Or.inl ⟨rfl, Or.inr ⟨x1, Int32.not_le.mpr x2⟩⟩
            · rw [if_neg x2]
              refine Or.inr ⟨rfl, x1, Int32.not_lt.mp x2, ?_⟩
              obtain ⟨n, hn, rfl⟩ := nI_of (x := a4) (fun w => x1 (Int32.lt_trans w (by decide)))
              exact ⟨n, Nat.le_of_not_lt (fun w => x2 (nI_lt (a := 20) w hn)), rfl⟩
        rcases hin with ⟨x0, x1 | ⟨x1, x2⟩⟩ | ⟨x0, x1, x2, c, hc, rfl⟩

        · rw [x0, if_pos x1]
          exact QB_same h rfl rfl
        · rw [x0, if_neg x1, if_neg x2]
          exact QB_same h rfl rfl
        · have hc1 : 1 ≤ c := Nat.le_of_not_lt (fun w => x1 (nI_lt (b := 1) w (by omega)))
          rw [x0, if_neg x1, if_pos x2, if_neg one_ne]
          simp only [fX6_isEmpty, fX6_isRowOf, ix_n hq (show 6 < 2 ^ 31 by omega), nI_clamp (show q < 2 ^ 31 by omega)]
          obtain ⟨gg1, gg2, gg3, gg4⟩ := five_f
          rcases sm_p1 h q hq with ⟨c1, m1⟩ | ⟨t, ht, c1, c2, m1⟩ | ⟨e, z, he, hz, c1, m1, c2, m2⟩
          · rw [c1, m1, if_pos rfl, if_pos rfl, if_pos rfl]
            simp only [bd_u, if_neg one_ne]
            have hE : fX6_hasElement (nI q) a3 C = some 0 := by
              unfold fX6_hasElement fX6_isRow
              rw [ix_n hq (by omega), nI_clamp (by omega), c1, if_pos (by decide)]
              rfl
            rw [hE]
            exact QB_same h rfl rfl
          · obtain ⟨f1, f2, f3⟩ := s_f t (by omega)
            rw [c1, m1, if_neg gg1, if_neg f1, if_neg (show ¬ nI t = -2 from fun w => f2 (by rw [w]; decide))]
            simp only [bd_u, if_pos, ↓reduceIte]
            rw [if_neg (show ¬ nI 5 = 0 by decide)]
            exact QB_same h rfl rfl
          · obtain ⟨f1, f2, f3, f4, f5, f6, f7, f8⟩ := ng_f e (by omega)
            rw [c1, m1, if_neg f4, if_neg f1]
            simp only [bd_u, ↓reduceIte]
            by_cases e0 : e = 0
            · subst e0
              rw [if_pos (show nI 0 = 0 from rfl), if_pos (show -nI (2 + 0) = -2 by decide)]
              simp only [if_neg one_ne, bd_u]
              rw [if_neg (show ¬ -nI (2 + 0) = -1 by decide), l37, l44]
              by_cases y1 : a3 < 0
              · have hE : fX6_hasElement (nI q) a3 C = some 0 := by
                  unfold fX6_hasElement
                  rw [isRow_1 hq he c1]
                  simp only [bd_u, if_neg one_ne]
                  rw [if_pos y1]
                rw [hE, cit_0 hq hz hc1 hc m2 (nI s) (Or.inl y1)]
                exact QB_same h rfl rfl
              · obtain ⟨a, ha, rfl⟩ := nI_of y1
                rw [hasE_q hq he c1 c2 hz ha]
                simp only [bd_u]
                by_cases y2 : a < z
                · rw [if_pos y2, if_neg one_ne]
                  exact ct_l hq he hz y2 hc c 0 C M nS nL (by omega) h hs c2 c1 m2 FU FU (FU_lt (by omega)) (FU_lt (by omega))
                · rw [if_neg y2, if_pos rfl, cit_0 hq hz hc1 hc m2 (nI s) (Or.inr ⟨a, ha, rfl, by omega⟩)]
                  exact QB_same h rfl rfl
            · rw [if_neg (show ¬ nI e = 0 from fun w => e0 ((nI_eq (a := e) (b := 0) (by omega) (by omega)).mp w)), if_neg (show ¬ -nI (2 + e) = -2 from fun w => e0 ((nI_eq (a := e) (b := 0) (by omega) (by omega)).mp ((ng_e e (by omega) 0 (by omega)).mp w)))]
              simp only [bd_u, ↓reduceIte]
              exact QB_same h rfl rfl
      · rw [e4, e5]
        exact QB_same h rfl rfl
  · rw [e1, e2]
    simp only [bd_u, oc_NU]
    exact QB_same h rfl rfl
