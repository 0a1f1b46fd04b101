def CPreA (D : va_G) (cy : Nat → ClassId) (A : Nat → Prop) (Z : State → Heap → Prop) (cn : Nat → Nat) (ad : Nat → Nat → Nat) (M : Mem) (av : List Value) : Array Value → State → Prop := va_Pc av (fun U => (Wd D cy A cn ad M U.heap ∧ va_K D vwCl (tysA cy) U ∧ Z U U.heap) ∧ ∀ q, U.heap.size ≤ q → A q)
theorem CPreA.blind {D : va_G} {cy : Nat → ClassId} {A : Nat → Prop} {Z : State → Heap → Prop} {cn : Nat → Nat} {ad : Nat → Nat → Nat} {M : Mem} {av : List Value} (hZk : ZOK A Z) : FrameBlind (CPreA D cy A Z cn ad M av) := fun a U g mk q => by
  obtain ⟨e, ⟨h1, h2, h3⟩, h4⟩ := q
  exact ⟨e, ⟨h1, va_K.moved (u := U) (U := U.calling g mk a) (Vm.Alike.refl U.vm) h2, hZk.2.1 U (U.calling g mk a) U.heap rfl h3⟩, h4⟩
def QG (D : va_G) (cy : Nat → ClassId) (A : Nat → Prop) (nS nL : Nat) (ad : Nat → Nat → Nat) (r : Int32) (M' : Mem) (nS' nL' : Nat) := va_Qi (fun (x : Int32) (_ : Nat → Nat → Nat) => x = r) (fun ad' t => Wd D cy A (cnC nS' nL') ad' M' t.heap ∧ (∀ t i, i < cnC nS nL t → ad' t i = ad t i) ∧ ∀ t, cnC nS nL t ≤ cnC nS' nL' t) A
theorem tb_startA {l : Launch} {y : MethodName} {cc : ByteArray} {maxL mc ms fr lo : Nat} {ret : Option FieldType} {D : va_G} {cy : Nat → ClassId} {A : Nat → Prop} {Z : State → Heap → Prop} {cn : Nat → Nat} {ad : Nat → Nat → Nat} {M : Mem} {Qc : Array Value → State → Outcome → State → Prop} (av : List Value) (lv0 : List (Nat × Value)) (own : String) (hown : y.cls = own) (hy : plainFor y = true) (hlen : (lg_sl av).length ≤ maxL) (hlv : lv_args 0 av = lv0)
    (body : ∀ (p : Program) (e : Env) (s : State) (m : MethodId) (args : Array Value) (below : List Frame) (meth : Method) (c : Code), p.tables.exec = Jvm.exec → c.code = cc → meth.sig.returnType = ret → c.maxLocals = maxL → s.vm.findClass own = some m.cls → (∀ w ∈ lw_tg, w.before args s = true) → meth.locks = false → Wd D cy A cn ad M s.heap → va_K D vwCl (tysA cy) s → Z s s.heap → (∀ q, s.heap.size ≤ q → A q) → ∀ ls : Array Slot, lv_has ls maxL lv0 →
      W p l e (rmk fr mc ms lo) s m args below meth c s.heap [] 0 0 (MQ below Qc args s mc ms A) (F0 m 0 ls [])) : Met l y (wt y cc maxL ret) (rmk fr mc ms lo) (CPreA D cy A Z cn ad M av) Qc mc ms A := by
  subst hown
  refine tb_ofW2 hy ?_
  intro p e s m args below meth c s₁ B hml hv
  obtain ⟨rfl, ⟨hW, hK, hZ⟩, hA⟩ := hv
  have hts0 := atoms_spec (ws := wt y cc maxL ret) B.pre
  have hl := lv_entry av (n := maxL) hlen
  rw [lg_entry_eq]
  generalize (lg_sl av ++ List.replicate (maxL - (lg_sl av).length) Slot.unset).toArray = ls at hl ⊢
  rw [hlv] at hl
  exact body p e s m _ below meth c B.exec B.bytes B.returns hml (findClass_of_methodNamed B.named) (fun w hw => hts0 w (List.mem_cons_of_mem _ hw)) B.notSynchronized hW hK hZ hA ls hl
theorem tb_apS {nS nL : Nat} {ad : Nat → Nat → Nat} {q sz u0 : Nat} {e0 : va_E} (hlt : ∀ t i, i < cnC nS nL t → (t < 13 ∨ 20 ≤ t) → ad t i < q) (hq : q < sz) (hne : q ≠ u0) (hu : va_A [(q, e0)] sz u0) : ∀ t i, i < cnC nS nL t → ad t i ≠ q ∧ ad t i ≠ u0 := by
  intro t i hi
  have ht : t < 13 ∨ 20 ≤ t := by
    rcases Nat.lt_or_ge t 13 with h | h
    · exact Or.inl h
    · rcases Nat.lt_or_ge t 20 with h2 | h2
      · rw [cn_out nS nL t h h2] at hi
        omega
      · exact Or.inr h2
  have h1 := hlt t i hi ht
  refine ⟨by omega, ?_⟩
  rcases hu with ⟨k, e, h⟩ | h
  · have hz : k < 1 := (List.getElem?_eq_some_iff.mp h).1
    rw [show k = 0 by omega] at h
    cases h
    exact absurd rfl hne
  · omega
theorem tb_apL {nS nL : Nat} {ad : Nat → Nat → Nat} {q : Nat} (hlt : ∀ t i, i < cnC nS nL t → (t < 13 ∨ 20 ≤ t) → ad t i < q) : ∀ t i, i < cnC nS nL t → ad t i ≠ q := by
  intro t i hi
  have ht : t < 13 ∨ 20 ≤ t := by
    rcases Nat.lt_or_ge t 13 with h | h
    · exact Or.inl h
    · rcases Nat.lt_or_ge t 20 with h2 | h2
      · rw [cn_out nS nL t h h2] at hi
        omega
      · exact Or.inr h2
  have h1 := hlt t i hi ht
  omega
section AL
variable {p : Program} {l : Launch} {e : Env} {R : Room} {s : State} {m : MethodId} {args : Array Value} {below : List Frame} {meth : Method} {c : Code} {H : Heap} {locs : List Loc} {cells slots : Nat} {Q : State → Prop}
variable {cc : ByteArray} {pc : Nat} {ls : Array Slot} {rest : List Value} {D : va_G} {cy : Nat → ClassId} {A : Nat → Prop} {cn : Nat → Nat} {ad : Nat → Nat → Nat} {M : Mem}
variable {Z : State → Heap → Prop} {nS nL : Nat}
theorem tb_gret {v r : Int32} {M1 M' : Mem} {a b nS' nL' : Nat} (h : some ((v, a, b), M1) = some ((r, nS', nL'), M')) {ad2 : Nat → Nat → Nat} (had : ∀ t i, i < cnC nS nL t → ad2 t i = ad t i) (hmo : ∀ t, cnC nS nL t ≤ cnC a b t) (hx : p.tables.exec = Jvm.exec) (hb : c.code = cc) (hr : meth.sig.returnType = some .int) (hS : va_S A s.heap H locs) (hW : Wd D cy A (cnC a b) ad2 M1 H) (hlocks : meth.locks = false) (hdg : decode cc pc = .ok (.ireturn, 1)) : W p l e R s m args below meth c H locs cells slots (MQ below (QG D cy A nS nL ad r M' nS' nL') args s cells slots A) (F0 m pc ls [.int v]) := by
  cases h
  exact W.iret hx hb hr (fun t ht hW' => ⟨⟨v, ad2, rfl, rfl, by show Wd D cy A _ ad2 _ t.heap; rw [ht]; exact hW, had, hmo⟩, hS.F ht⟩) hS.2.2 hdg hlocks
theorem tb_cVA (hZk : ZOK A Z) (hx : p.tables.exec = Jvm.exec) (hb : c.code = cc) {nL0 : Nat} (hml : c.maxLocals = nL0) {own : String} (hown : s.vm.findClass own = some m.cls) (hts : ∀ w ∈ lw_tg, w.before args s = true) (hK : va_K D vwCl (tysA cy) s) (hZ : Z s s.heap) (hW : Wd D cy A cn ad M H) (hS : va_S A s.heap H locs) (hAn : ∀ q, s.heap.size ≤ q → A q) {a0 : Nat} {y : MethodName} {bytes : ByteArray} {maxL index n fr lo mc ms nS' nL' : Nat} {ret : Option FieldType} {M' : Mem} {r : Int32} (As : List Value) (hM : Met l y (wt y bytes maxL ret) (rmk fr mc ms lo) (CPreA D cy A Z cn ad M (.ref a0 :: As)) (QG D cy A nS nL ad r M' nS' nL') mc ms A) (pm : PMi y bytes maxL ret n) (hl : Cond.methodLink own index y ∈ lw_tg) (hrc : ∃ cell : Cell, H[a0]? = some cell ∧ cell.vm.isStatics = false ∧ s.vm.findClass y.cls = some cell.cls) (hR : fr + 1 ≤ R.frames ∧ 8 + (maxL + 11) + lo ≤ R.locals) (hn : As.length = n) (hsz : ls.size = nL0) (hcat : (rest.map fun v => v.category).sum ≤ 8) (hf : cells + mc ≤ R.cells ∧ slots + ms ≤ R.slots) {st : List Value} (hst : st = As.reverse ++ .ref a0 :: rest) (hdg : decode cc pc = .ok (.invokevirtual index, 3)) (kk : ∀ (ad2 : Nat → Nat → Nat) (H1 : Heap) (locs1 : List Loc), Wd D cy A (cnC nS' nL') ad2 M' H1 → (∀ t i, i < cnC nS nL t → ad2 t i = ad t i) → (∀ t, cnC nS nL t ≤ cnC nS' nL' t) → va_S A s.heap H1 locs1 → W p l e R s m args below meth c H1 locs1 (cells + mc) (slots + ms) Q (F0 m (pc + 3) ls (.int r :: rest))) : W p l e R s m args below meth c H locs cells slots Q (F0 m pc ls st) := by
  subst hst
  refine va_calli (va_runV (As := As) (rest := rest) ⟨hx, hb, hml, hown, hts⟩ hM ⟨tb_callB hts pm.1 hl hR rfl rfl, hts _ pm.2.1, hts _ pm.2.2⟩ ⟨CPreA.blind hZk, hrc, fun U hU hV => ⟨rfl, (CPre.mk (av := []) hZk hZ hS hK hW U hU hV).2, by rw [hU]; exact fun q hq => hAn q (Nat.le_trans hS.1 hq)⟩⟩ rfl hn hsz rfl (lv_room hcat) hdg hf) hS (fun _ _ h => h) (fun _ h => h) (fun r1 u t1 H1 locs1 ht1 hvm hw hB hz1 hk1 hS1 => ?_)
  subst hw
  obtain ⟨hB1, hB2, hB3⟩ := hB
  rw [ht1] at hB1
  exact kk u H1 locs1 hB1 hB2 hB3 hS1
theorem as32 (hx : p.tables.exec = Jvm.exec) (hb : c.code = cc) (hK : va_K D vwCl (tysA cy) s) (hW : Wd D cy A cn ad M H) (hS : va_S A s.heap H locs) {i z : Nat} (hi : i < cn 32) (hz : z < cn 8) {j : Int32} (hin : vp_in j 64) (hdg : decode cc pc = .ok (.aastore, 1)) (kk : ∀ (H1 : Heap) (locs1 : List Loc), Wd D cy A cn ad (msR M 3200 i j.toNatClampNeg (some z)) H1 → va_S A s.heap H1 locs1 → W p l e R s m args below meth c H1 locs1 cells slots Q (F0 m (pc + 1) ls rest)) : W p l e R s m args below meth c H locs cells slots Q (F0 m pc ls (.ref (ad 8 z) :: .int j :: .ref (ad 32 i) :: rest)) := by
  have h0 : H[ad 32 i]? = some (vp_cell (cy 5) (64, .inr (.inr (.inr (.inr (fun j => (mgR M 3200 i j).map (ad 8))))))) := hW.2.1 32 i (by decide) hi
  have hsz : (vp_cell (cy 5) (64, .inr (.inr (.inr (.inr (fun j => (mgR M 3200 i j).map (ad 8))))))).slots.size = 64 := by rw [vp_cell_q, arrV_size]
  obtain ⟨cellV, g1, g2, g3, -⟩ := hW.1 8 z (by decide) hz
  have hcls := (hK.1 8 _ rfl).2
  obtain ⟨kA, comp, k1, k2, k3, -⟩ := (hK.2 5 _ rfl).2
  have hcomp : comp = D.1 8 := Option.some.inj (k3.symm.trans hcls.1)
  subst hcomp
  obtain ⟨kC, hkC, -⟩ := hcls.2
  refine W.aast hx hb h0 (fun q h => by cases h) (fun h => by cases h) k1 k2 rfl hkC ⟨fun q => hin (Or.inl q), by rw [hsz]; exact Nat.not_le.mp fun q => hin (Or.inr q)⟩ g1 (fun q h => by rw [g3] at h; cases h) (by rw [g2]; exact hkC) (by rw [g2]; exact va_assign hcls) rfl rfl hdg fun H1 e1 z1 oq => ?_
  refine kk H1 _ (hW.setA (by decide) hi ?_ oq ?_ ?_ ?_) (hS.put z1 oq (hW.2.2.2.1 32 i hi))
  · rw [e1]
    show some _ = some (vp_cell (cy 5) (64, .inr (.inr (.inr (.inr (fun j' => (mgR (msR M 3200 i j.toNatClampNeg (some z)) 3200 i j').map (ad 8)))))))
    rw [vp_cell_q, vp_cell_q, arrV_store]
    refine congrArg (fun f => some (arrV (cy 5) 64 f)) (funext fun q => ?_)
    simp only [updV, mgR_R]
    by_cases hq : q = j.toNatClampNeg
    · subst hq
      simp [va_rf]
    · simp [hq]
  · intro t' i' k' ht' hk'
    refine fvk_R _ _ _ _ _ _ _ _ _ _ (fun z => ?_)
    have := nF_le t'
    omega
  · intro t' i' hne
    refine arc_R _ _ _ _ _ _ _ _ _ (fun j' z => hne ⟨by omega, z.2.1⟩)
  · intro q hq i2 j2 o ho
    rw [mgR_R] at ho
    by_cases hc : q.1 = 3200 ∧ i2 = i ∧ j2 = j.toNatClampNeg
    · rw [if_pos hc] at ho
      cases ho
      rcases rTab_cases hq with rfl | rfl | rfl | rfl
      · exact absurd hc.1 (by decide)
      · exact absurd hc.1 (by decide)
      · exact hz
      · exact absurd hc.1 (by decide)
    · rw [if_neg hc] at ho
      exact hW.2.2.2.2 q hq i2 j2 o ho
theorem as33 (hx : p.tables.exec = Jvm.exec) (hb : c.code = cc) (hK : va_K D vwCl (tysA cy) s) (hW : Wd D cy A cn ad M H) (hS : va_S A s.heap H locs) {i z : Nat} (hi : i < cn 33) (hz : z < cn 4) {j : Int32} (hin : vp_in j 200) (hdg : decode cc pc = .ok (.aastore, 1)) (kk : ∀ (H1 : Heap) (locs1 : List Loc), Wd D cy A cn ad (msR M 3300 i j.toNatClampNeg (some z)) H1 → va_S A s.heap H1 locs1 → W p l e R s m args below meth c H1 locs1 cells slots Q (F0 m (pc + 1) ls rest)) : W p l e R s m args below meth c H locs cells slots Q (F0 m pc ls (.ref (ad 4 z) :: .int j :: .ref (ad 33 i) :: rest)) := by
  have h0 : H[ad 33 i]? = some (vp_cell (cy 6) (200, .inr (.inr (.inr (.inr (fun j => (mgR M 3300 i j).map (ad 4))))))) := hW.2.1 33 i (by decide) hi
  have hsz : (vp_cell (cy 6) (200, .inr (.inr (.inr (.inr (fun j => (mgR M 3300 i j).map (ad 4))))))).slots.size = 200 := by rw [vp_cell_q, arrV_size]
  obtain ⟨cellV, g1, g2, g3, -⟩ := hW.1 4 z (by decide) hz
  have hcls := (hK.1 4 _ rfl).2
  obtain ⟨kA, comp, k1, k2, k3, -⟩ := (hK.2 6 _ rfl).2
  have hcomp : comp = D.1 4 := Option.some.inj (k3.symm.trans hcls.1)
  subst hcomp
  obtain ⟨kC, hkC, -⟩ := hcls.2
  refine W.aast hx hb h0 (fun q h => by cases h) (fun h => by cases h) k1 k2 rfl hkC ⟨fun q => hin (Or.inl q), by rw [hsz]; exact Nat.not_le.mp fun q => hin (Or.inr q)⟩ g1 (fun q h => by rw [g3] at h; cases h) (by rw [g2]; exact hkC) (by rw [g2]; exact va_assign hcls) rfl rfl hdg fun H1 e1 z1 oq => ?_
  refine kk H1 _ (hW.setA (by decide) hi ?_ oq ?_ ?_ ?_) (hS.put z1 oq (hW.2.2.2.1 33 i hi))
  · rw [e1]
    show some _ = some (vp_cell (cy 6) (200, .inr (.inr (.inr (.inr (fun j' => (mgR (msR M 3300 i j.toNatClampNeg (some z)) 3300 i j').map (ad 4)))))))
    rw [vp_cell_q, vp_cell_q, arrV_store]
    refine congrArg (fun f => some (arrV (cy 6) 200 f)) (funext fun q => ?_)
    simp only [updV, mgR_R]
    by_cases hq : q = j.toNatClampNeg
    · subst hq
      simp [va_rf]
    · simp [hq]
  · intro t' i' k' ht' hk'
    refine fvk_R _ _ _ _ _ _ _ _ _ _ (fun z => ?_)
    have := nF_le t'
    omega
  · intro t' i' hne
    refine arc_R _ _ _ _ _ _ _ _ _ (fun j' z => hne ⟨by omega, z.2.1⟩)
  · intro q hq i2 j2 o ho
    rw [mgR_R] at ho
    by_cases hc : q.1 = 3300 ∧ i2 = i ∧ j2 = j.toNatClampNeg
    · rw [if_pos hc] at ho
      cases ho
      rcases rTab_cases hq with rfl | rfl | rfl | rfl
      · exact absurd hc.1 (by decide)
      · exact absurd hc.1 (by decide)
      · exact absurd hc.1 (by decide)
      · exact hz
    · rw [if_neg hc] at ho
      exact hW.2.2.2.2 q hq i2 j2 o ho
theorem ptX5_54 (hx : p.tables.exec = Jvm.exec) (hb : c.code = cc) (hts : ∀ w ∈ lw_tg, w.before args s = true) (hown : s.vm.findClass RX5 = some m.cls) (hK : va_K D vwCl (tysA cy) s) (hW : Wd D cy A cn ad M H) (hS : va_S A s.heap H locs) {i z : Nat} (hi : i < cn 8) (hz : z < cn 4) (hdg : decode cc pc = .ok (.putfield 54, 3)) (kk : ∀ (H1 : Heap) (locs1 : List Loc), Wd D cy A cn ad (msR M 813 i 0 (some z)) H1 → va_S A s.heap H1 locs1 → W p l e R s m args below meth c H1 locs1 cells slots Q (F0 m (pc + 3) ls rest)) : W p l e R s m args below meth c H locs cells slots Q (F0 m pc ls (.ref (ad 4 z) :: .ref (ad 8 i) :: rest)) := by
  refine tb_put hx hb hts hown hK hW hS 8 13 inX8 rfl (by decide) (by decide) (by decide) tyX8 tyX8_ok nmX8 hi tw459 rfl (ty := .object "TakenBack$Line") (v := .ref (ad 4 z)) (tyX8_ok 13 (by decide)) rfl rfl (msR M 813 i 0 (some z)) ?_ ?_ ?_ ?_ hdg kk
  · show rv (ad 4) (mgR (msR M 813 i 0 (some z)) 813 i 0) = _
    rw [mgR_R, if_pos ⟨rfl, rfl, rfl⟩]
    rfl
  · intro t' i' k' hk' hne
    refine fvk_R _ _ _ _ _ _ _ _ _ _ (fun z => hne ?_)
    have := nF_le t'
    exact ⟨by omega, z.2.1, by omega⟩
  · intro t' i' ht'
    refine arc_R _ _ _ _ _ _ _ _ _ (fun j' z => ?_)
    omega
  · intro q hq i2 j2 o ho
    rw [mgR_R] at ho
    by_cases hc : q.1 = 813 ∧ i2 = i ∧ j2 = 0
    · rw [if_pos hc] at ho
      cases ho
      rcases rTab_cases hq with rfl | rfl | rfl | rfl
      · exact absurd hc.1 (by decide)
      · exact hz
      · exact absurd hc.1 (by decide)
      · exact absurd hc.1 (by decide)
    · rw [if_neg hc] at ho
      exact hW.2.2.2.2 q hq i2 j2 o ho
end AL
/-- a piece of the row of longs 38 copied within it -/
def msCp (M : Mem) (sp dp n : Nat) : Mem := (M.1, fun f i j => if (f = 3800 ∧ i = 0) ∧ dp ≤ j ∧ j < dp + n then M.2.1 3800 0 (sp + (j - dp)) else M.2.1 f i j, M.2.2)
def cpk {ρ : Type} (sp dp n : Int32) (L : Int) (k : Option ρ) : Option ρ := if 0 ≤ sp.toInt ∧ 0 ≤ dp.toInt ∧ 0 ≤ n.toInt ∧ sp.toInt + n.toInt ≤ L ∧ dp.toInt + n.toInt ≤ L then k else none
def fX6_move (x1 x2 x3 x4 x5 : Int32) (M0 : Mem) : Option (Unit × Mem) := cpk (x1 * (60 : Int32) + x2) (x3 * (60 : Int32) + x4) x5 360 (some ((), msCp M0 (x1 * (60 : Int32) + x2).toNatClampNeg (x3 * (60 : Int32) + x4).toNatClampNeg x5.toNatClampNeg))
set_option maxHeartbeats 4000000 in
theorem mX6_move {l : Launch} {D : va_G} {cy : Nat → ClassId} {A : Nat → Prop} {K : KC} {nS nL : Nat} {ad : Nat → Nat → Nat} (hZk : ZOK A (ZC A K)) (x1 x2 x3 x4 x5 : Int32) (M0 : Mem) (r : Unit) (M' : Mem) (h : fX6_move x1 x2 x3 x4 x5 M0 = some (r, M')) : Met l yX6_move (wt yX6_move cX6_move 6 none) (rm 1 60) (CPre D cy A (ZC A K) (cnC nS nL) ad M0 [.ref (ad 6 0), .int x1, .int x2, .int x3, .int x4, .int x5]) (QV D cy A (cnC nS nL) ad r M') 0 0 A := by
  refine tb_start [.ref (ad 6 0), .int x1, .int x2, .int x3, .int x4, .int x5] [(0, .ref (ad 6 0)), (1, .int x1), (2, .int x2), (3, .int x3), (4, .int x4), (5, .int x5)] RX6 rfl (by decide +kernel) (Nat.le_of_ble_eq_true rfl) rfl (fun p e s m args below meth c hx hb hr hml hown hts hlk hW hK hZ ls hl => ?_)
  refine lv_aload_n hx hb dX6_move_0 rfl (lv_at hl 0 rfl) ?_
  refine gtX6_21 hx hb hts hown hK hW cz6 dX6_move_1 ?_
  refine lv_iload_n hx hb dX6_move_4 rfl (lv_at hl 1 rfl) ?_
  refine lv_bipush (v := (60 : Int32)) hx hb dX6_move_5 (by decide) ?_
  refine lv_imul hx hb dX6_move_7 ?_
  refine lv_iload_n hx hb dX6_move_8 rfl (lv_at hl 2 rfl) ?_
  refine lv_iadd hx hb dX6_move_9 ?_
  refine lv_aload_n hx hb dX6_move_10 rfl (lv_at hl 0 rfl) ?_
  refine gtX6_21 hx hb hts hown hK hW cz6 dX6_move_11 ?_
  refine lv_iload_n hx hb dX6_move_14 rfl (lv_at hl 3 rfl) ?_
  refine lv_bipush (v := (60 : Int32)) hx hb dX6_move_15 (by decide) ?_
  refine lv_imul hx hb dX6_move_17 ?_
  refine lv_iload hx hb dX6_move_18 (lv_at hl 4 rfl) ?_
  refine lv_iadd hx hb dX6_move_20 ?_
  refine lv_iload hx hb dX6_move_21 (lv_at hl 5 rfl) ?_
  unfold fX6_move at h
  generalize x1 * (60 : Int32) + x2 = sp at h ⊢
  generalize x3 * (60 : Int32) + x4 = dp at h ⊢
  unfold cpk at h
  by_cases hc : 0 ≤ sp.toInt ∧ 0 ≤ dp.toInt ∧ 0 ≤ x5.toInt ∧ sp.toInt + x5.toInt ≤ 360 ∧ dp.toInt + x5.toInt ≤ 360
  · rw [if_pos hc] at h
    obtain ⟨c1, c2, c3, c4, c5⟩ := hc
    have nn : ∀ z : Int32, 0 ≤ z.toInt → ¬ z < 0 := fun z hz hn => by
      have h1 := Int32.lt_iff_toInt_lt.mp hn
      have h0 : (0 : Int32).toInt = 0 := by decide
      omega
    have cl : ∀ z : Int32, z.toNatClampNeg = z.toInt.toNat := fun _ => rfl
    have h0 : s.heap[ad 38 0]? = some (vp_cell (cy 1) (360, .inr (.inl (fun j => mgL M0 3800 0 j)))) := hW.2.1 38 0 (by decide) cz38
    have hP : va_P D vwCl [(ad 38 0, .inl (cy 1, 360, .inr (.inl (fun j => mgL M0 3800 0 j))))] s.heap := fun k q hq => by
      have hz : k < 1 := (List.getElem?_eq_some_iff.mp hq).1
      rw [show k = 0 by omega] at hq
      cases hq
      exact h0
    have hD : va_D (fun q => q = ad 38 0) [(ad 38 0, .inl (cy 1, 360, .inr (.inl (fun j => mgL M0 3800 0 j))))] := ⟨fun i j p q hi hj _ => by
      have h1 := (List.getElem?_eq_some_iff.mp hi).1
      have h2 := (List.getElem?_eq_some_iff.mp hj).1
      simp at h1 h2
      omega, fun k q hq => by
      have hz : k < 1 := (List.getElem?_eq_some_iff.mp hq).1
      rw [show k = 0 by omega] at hq
      cases hq
      rfl⟩
    refine va_copyl hx hb (hml.trans hl.1.symm) hown (hts _ tw1196) (hts _ tw1198) (hts _ tw1197) (hts _ tw98) hK hP hD (va_S.rf (H0 := s.heap)) 0 0 1 1 (f := fun j => mgL M0 3800 0 j) (g := fun j => mgL M0 3800 0 j) rfl rfl rfl rfl rfl (nn _ c1) (nn _ c2) (nn _ c3) (by rw [cl, cl]; omega) (by rw [cl, cl]; omega) (fun i _ => rfl) (Nat.le_of_ble_eq_true rfl) (by decide +kernel) dX6_move_23 (fun H1 locs1 hP1 hD1 hS1 => ?_)
    have e1 := hP1 0 _ rfl
    have hA38 := hW.2.2.2.1 38 0 cz38
    have oq : ∀ q, q < s.heap.size → q ≠ ad 38 0 → H1[q]? = s.heap[q]? := fun q h1 h2 => hS1.2.1 q h1 h2
    have hS : va_S A s.heap H1 locs1 := ⟨hS1.1, fun q h1 h2 => oq q h1 (fun e => h2 (e ▸ hA38)), fun l hl' => by rw [hS1.2.2 l hl']; exact hA38⟩
    have hW1 : Wd D cy A (cnC nS nL) ad (msCp M0 sp.toNatClampNeg dp.toNatClampNeg x5.toNatClampNeg) H1 := by
      refine ⟨fun t i ht hi => ?_, fun t i ht hi => ?_, hW.2.2.1, hW.2.2.2.1, hW.2.2.2.2⟩
      · refine t_OB.to ((hW.1 t i ht hi).kept (oq _ (hW.lt hi (Or.inl ht)) (fun e => ?_))) (fun k hk => ?_)
        · have := (hW.2.2.1 t i 38 0 hi cz38 e).1
          omega
        · unfold fvk
          split <;> first | rfl | (show Value.long _ = Value.long _; congr 1; simp only [mgL, msCp]; rw [if_neg (fun z => by have := nF_le t; omega)])
      · by_cases hc : t = 38 ∧ i = 0
        · obtain ⟨rfl, rfl⟩ := hc
          rw [show H1[ad 38 0]? = _ from e1]
          show some (vp_cell (cy 1) _) = some (vp_cell (cy 1) (360, .inr (.inl (fun j => mgL (msCp M0 sp.toNatClampNeg dp.toNatClampNeg x5.toNatClampNeg) 3800 0 j))))
          exact congrArg (fun f => some (vp_cell (cy 1) (360, Sum.inr (Sum.inl f)))) (funext fun j => by simp [va_cpy, mgL, msCp])
        · rw [oq _ (hW.lt hi (Or.inr ht)) (fun e => hc (hW.2.2.1 t i 38 0 hi cz38 e)), hW.2.1 t i ht hi]
          have hL : ∀ j, mgL (msCp M0 sp.toNatClampNeg dp.toNatClampNeg x5.toNatClampNeg) (100 * t) i j = mgL M0 (100 * t) i j := fun j => by
            simp only [mgL, msCp]
            rw [if_neg (fun z => hc ⟨by omega, z.1.2⟩)]
          unfold arc
          split
          · simp only [hL]
          · rfl
          · rfl
          · rfl
    exact tb_vretE h hx hb hr hS hW1 hlk dX6_move_26
  · rw [if_neg hc] at h
    cases h
