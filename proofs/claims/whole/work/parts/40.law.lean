def R_law : String := "TakenBackLaw"
def lw_P (b : Addr) (xs : List Int32) (args : Array Value) (s : State) : Prop := args = #[.ref b] ∧ s.IntsAt b xs ∧ xs.length ≤ 384 ∧ (Jvm.Cond.and given_1 narrow_1).before args s = true
def lw_Q (_ : Array Value) (s : State) (o : Outcome) (t : State) : Prop := o = .returned (some (.int 1)) ∧ Framed s o t [] 600000 7302250
def lw_Z (below : List Frame) (a : Array Value) (s : State) : State → Prop := fun t => ∃ o, t.status = .running ∧ Ended t below o ∧ lw_Q a s o t
/-- the law's own end, with 1 on the stack, nothing written that was there before, its room as the claim has it -/
theorem lw_ret {p : Program} {l : Launch} {e : Env} {s : State} {m : MethodId} {below : List Frame} {meth : Method} {c : Code} {b : Nat} (hx : p.tables.exec = Jvm.exec) (hb : c.code = code) (hr : meth.sig.returnType = ret) (hlocks : meth.locks = false) {pc : Nat} {H : Heap} {ls : Array Slot} (hdg : decode code pc = .ok (.ireturn, 1)) : W p l e room_1 s m #[Value.ref b] below meth c H [] 600000 7302250 (lw_Z below #[Value.ref b] s) (F0 m pc ls [.int 1]) := by
  intro T hT X
  obtain ⟨fs, hret, hrun, hended, hW, hframe⟩ := X.leave (v := some (.int 1)) (hlocks := hlocks) (fun h => by rw [hr] at h; cases h)
  have hmeth' : T.vm.method? m = some meth := X.method'
  refine ⟨T.setFrames fs, ?_, .returned (some (.int 1)), hrun, hended, rfl, ⟨_, rfl⟩, hW, hframe⟩
  jvm_step X.here [X.here.top, hx, hb, hdg, hmeth', hr, ret, narrow_b1]
  (try refine ⟨rfl, ?_⟩); (try refine ⟨rfl, ?_⟩)
  first | (intro acts; rw [hret _ acts rfl rfl rfl]) | rw [hret _ _ rfl rfl rfl]
  exact Steps.refl _
/-- what holds at the law's entry: the machine, the code, the tables' words (any of lw_tbl by 'hts w (by decide +kernel)'), the script of L ints xs at the cell b, what the Statement gives of the start (any of its parts by flat_of_before) -/
def lw_At (p : Program) (s : State) (m : MethodId) (meth : Method) (c : Code) (b L : Nat) (xs : Nat → Int32) : Prop :=
  p.tables.exec = Jvm.exec ∧ c.code = code ∧ meth.sig.returnType = ret ∧ c.maxLocals = 4 ∧ s.vm.findClass R_law = some m.cls ∧ (∀ w ∈ lw_tbl, w.before #[Value.ref b] s = true) ∧ va_X b L xs s s.heap ∧ b < s.heap.size ∧ meth.locks = false ∧ (Jvm.Cond.and given_1 narrow_1).before #[Value.ref b] s = true
/-! the law's loop: both worlds in one heap -/
def AM (adM : Nat → Nat → Nat) (q : Nat) : Prop := ∃ t i, i < cnM t ∧ (t < 13 ∨ 20 ≤ t) ∧ adM t i = q
def AC (base : Nat) (adM : Nat → Nat → Nat) (q : Nat) : Prop := base ≤ q ∧ ¬ AM adM q
def ZT (_ : State) (_ : Heap) : Prop := True
theorem ZT_ok {A : Nat → Prop} : ZOK A ZT := ⟨fun _ _ _ _ _ _ => trivial, fun _ _ _ _ _ => trivial, fun _ _ _ _ _ => trivial⟩
theorem ZC_narrow {A B : Nat → Prop} {K : KC} {U : State} {H : Heap} (h : ZC A K U H) (hAB : ∀ q, B q → A q) : ZC B K U H :=
  ⟨fun i hi => ⟨(h.1 i hi).1.narrow hAB, (h.1 i hi).2.1.narrow hAB, (h.1 i hi).2.2.1.narrow hAB, (h.1 i hi).2.2.2.narrow hAB⟩, h.2.1, h.2.2.1.narrow hAB, ⟨h.2.2.2.1.1.narrow hAB, h.2.2.2.1.2.narrow hAB⟩, ⟨h.2.2.2.2.1.1.narrow hAB, h.2.2.2.2.1.2.narrow hAB⟩, h.2.2.2.2.2⟩
theorem cnM_out (t : Nat) (h : 13 ≤ t) (h2 : t < 20) : cnM t = 0 := by
  unfold cnM
  rw [if_neg (by omega), if_neg (by omega)]
theorem Wd.keptM {D : va_G} {cy : Nat → ClassId} {adM : Nat → Nat → Nat} {MM : Mem} {H H1 : Heap} {base : Nat} (h : Wd D cy (AM adM) cnM adM MM H) (hk : ∀ q, q < H.size → ¬ AC base adM q → H1[q]? = H[q]?) : Wd D cy (AM adM) cnM adM MM H1 :=
  h.kept (fun t i hi ht => hk _ (h.lt hi ht) (fun z => z.2 ⟨t, i, hi, ht, rfl⟩))
theorem Wd.keptC {D : va_G} {cy : Nat → ClassId} {adM adC : Nat → Nat → Nat} {cn : Nat → Nat} {MC : Mem} {H H1 : Heap} {base : Nat} (h : Wd D cy (AC base adM) cn adC MC H) (hk : ∀ q, q < H.size → ¬ AM adM q → H1[q]? = H[q]?) : Wd D cy (AC base adM) cn adC MC H1 :=
  h.kept (fun t i hi ht => hk _ (h.lt hi ht) (h.2.2.2.1 t i hi).2)
section LW
variable {p : Program} {l : Launch} {e : Env} {R : Room} {s : State} {m : MethodId} {args : Array Value} {below : List Frame} {meth : Method} {c : Code} {H : Heap} {locs : List Loc} {cells slots : Nat} {Q : State → Prop}
variable {cc : ByteArray} {pc : Nat} {ls : Array Slot} {rest : List Value} {D : va_G} {cy : Nat → ClassId} {A : Nat → Prop} {cn : Nat → Nat} {ad : Nat → Nat → Nat} {M : Mem}
variable {K : KC} {adM adC : Nat → Nat → Nat} {MC MM : Mem} {nS nL : Nat}
theorem lw_cCI (hx : p.tables.exec = Jvm.exec) (hb : c.code = cc) {nv : Nat} (hml : c.maxLocals = nv) {own : String} (hown : s.vm.findClass own = some m.cls) (hts : ∀ w ∈ lw_tg, w.before args s = true) (hK : va_K D vwCl (tysA cy) s) (hZ : ZC (fun q => s.heap.size ≤ q) K s s.heap) (hS : va_S (fun q => s.heap.size ≤ q) s.heap H locs) (hC : Wd D cy (AC s.heap.size adM) (cnC nS nL) adC MC H) (hM : Wd D cy (AM adM) cnM adM MM H) (hMb : ∀ q, AM adM q → s.heap.size ≤ q) {y : MethodName} {bytes : ByteArray} {maxL index n fr lo : Nat} {ret : Option FieldType} {M' : Mem} {r : Int32} (As : List Value) (hMet : Met l y (wt y bytes maxL ret) (rm fr lo) (CPre D cy (AC s.heap.size adM) (ZC (AC s.heap.size adM) K) (cnC nS nL) adC MC (.ref (adC 11 0) :: As)) (QI D cy (AC s.heap.size adM) (cnC nS nL) adC r M') 0 0 (AC s.heap.size adM)) (hyc : y.cls = RX11) (pm : PMi y bytes maxL ret n) (hl : Cond.methodLink own index y ∈ lw_tg) (hR : fr + 1 ≤ R.frames ∧ 8 + (maxL + 11) + lo ≤ R.locals) (hn : As.length = n) (hsz : ls.size = nv) (hcat : (rest.map fun v => v.category).sum ≤ 8) (hf : cells + 0 ≤ R.cells ∧ slots + 0 ≤ R.slots) {st : List Value} (hst : st = As.reverse ++ .ref (adC 11 0) :: rest) (hdg : decode cc pc = .ok (.invokevirtual index, 3)) (kk : ∀ (H1 : Heap) (locs1 : List Loc), Wd D cy (AC s.heap.size adM) (cnC nS nL) adC M' H1 → Wd D cy (AM adM) cnM adM MM H1 → va_S (fun q => s.heap.size ≤ q) s.heap H1 locs1 → W p l e R s m args below meth c H1 locs1 cells slots Q (F0 m (pc + 3) ls (.int r :: rest))) : W p l e R s m args below meth c H locs cells slots Q (F0 m pc ls st) := by
  subst hst
  have hZH : ZC (AC s.heap.size adM) K s H := ZC_narrow (ZC_kept hZ hS.2.1) (fun q h => h.1)
  refine va_calli (va_runV (As := As) (rest := rest) ⟨hx, hb, hml, hown, hts⟩ hMet ⟨tb_callB hts pm.1 hl hR rfl rfl, hts _ pm.2.1, hts _ pm.2.2⟩ ⟨CPre.blind ZC_ok, by rw [hyc]; exact Wd.recv hK hC (t := 11) (by decide) cz11 (C := RX11) (T := TX11) (N := 8) rfl, fun U hU hV => ⟨rfl, by rw [hU]; exact hC, va_K.moved hV.alike hK, by rw [hU]; exact ZC_ok.2.2 s U H hV hZH⟩⟩ rfl hn hsz rfl (lv_room hcat) hdg hf) hS (fun q _ h => h.1) (fun q h => h.1) (fun r1 u t1 H1 locs1 ht1 hvm hw hB hz1 hk1 hS1 => ?_)
  subst hw
  rw [ht1] at hB
  exact kk H1 locs1 hB (hM.keptM hk1) hS1
theorem lw_cMI (hx : p.tables.exec = Jvm.exec) (hb : c.code = cc) {nv : Nat} (hml : c.maxLocals = nv) {own : String} (hown : s.vm.findClass own = some m.cls) (hts : ∀ w ∈ lw_tg, w.before args s = true) (hK : va_K D vwCl (tysA cy) s) (hZ : ZC (fun q => s.heap.size ≤ q) K s s.heap) (hS : va_S (fun q => s.heap.size ≤ q) s.heap H locs) (hC : Wd D cy (AC s.heap.size adM) (cnC nS nL) adC MC H) (hM : Wd D cy (AM adM) cnM adM MM H) (hMb : ∀ q, AM adM q → s.heap.size ≤ q) {y : MethodName} {bytes : ByteArray} {maxL index n fr lo : Nat} {ret : Option FieldType} {M' : Mem} {r : Int32} (As : List Value) (hMet : Met l y (wt y bytes maxL ret) (rm fr lo) (CPre D cy (AM adM) ZT cnM adM MM (.ref (adM 12 0) :: As)) (QI D cy (AM adM) cnM adM r M') 0 0 (AM adM)) (hyc : y.cls = RX12) (pm : PMi y bytes maxL ret n) (hl : Cond.methodLink own index y ∈ lw_tg) (hR : fr + 1 ≤ R.frames ∧ 8 + (maxL + 11) + lo ≤ R.locals) (hn : As.length = n) (hsz : ls.size = nv) (hcat : (rest.map fun v => v.category).sum ≤ 8) (hf : cells + 0 ≤ R.cells ∧ slots + 0 ≤ R.slots) {st : List Value} (hst : st = As.reverse ++ .ref (adM 12 0) :: rest) (hdg : decode cc pc = .ok (.invokevirtual index, 3)) (kk : ∀ (H1 : Heap) (locs1 : List Loc), Wd D cy (AC s.heap.size adM) (cnC nS nL) adC MC H1 → Wd D cy (AM adM) cnM adM M' H1 → va_S (fun q => s.heap.size ≤ q) s.heap H1 locs1 → W p l e R s m args below meth c H1 locs1 cells slots Q (F0 m (pc + 3) ls (.int r :: rest))) : W p l e R s m args below meth c H locs cells slots Q (F0 m pc ls st) := by
  subst hst
  refine va_calli (va_runV (As := As) (rest := rest) ⟨hx, hb, hml, hown, hts⟩ hMet ⟨tb_callB hts pm.1 hl hR rfl rfl, hts _ pm.2.1, hts _ pm.2.2⟩ ⟨CPre.blind ZT_ok, by rw [hyc]; exact Wd.recv hK hM (t := 12) (by decide) cz12 (C := RX12) (T := TX12) (N := 58) rfl, fun U hU hV => ⟨rfl, by rw [hU]; exact hM, va_K.moved hV.alike hK, trivial⟩⟩ rfl hn hsz rfl (lv_room hcat) hdg hf) hS (fun q _ h => hMb q h) (fun q h => hMb q h) (fun r1 u t1 H1 locs1 ht1 hvm hw hB hz1 hk1 hS1 => ?_)
  subst hw
  rw [ht1] at hB
  exact kk H1 locs1 (hC.keptC hk1) hB hS1
theorem lw_cCL (hx : p.tables.exec = Jvm.exec) (hb : c.code = cc) {nv : Nat} (hml : c.maxLocals = nv) {own : String} (hown : s.vm.findClass own = some m.cls) (hts : ∀ w ∈ lw_tg, w.before args s = true) (hK : va_K D vwCl (tysA cy) s) (hZ : ZC (fun q => s.heap.size ≤ q) K s s.heap) (hS : va_S (fun q => s.heap.size ≤ q) s.heap H locs) (hC : Wd D cy (AC s.heap.size adM) (cnC nS nL) adC MC H) (hM : Wd D cy (AM adM) cnM adM MM H) (hMb : ∀ q, AM adM q → s.heap.size ≤ q) {y : MethodName} {bytes : ByteArray} {maxL index n fr lo : Nat} {ret : Option FieldType} {M' : Mem} {r : Int64} (As : List Value) (hMet : Met l y (wt y bytes maxL ret) (rm fr lo) (CPre D cy (AC s.heap.size adM) (ZC (AC s.heap.size adM) K) (cnC nS nL) adC MC (.ref (adC 11 0) :: As)) (QL D cy (AC s.heap.size adM) (cnC nS nL) adC r M') 0 0 (AC s.heap.size adM)) (hyc : y.cls = RX11) (pm : PMi y bytes maxL ret n) (hl : Cond.methodLink own index y ∈ lw_tg) (hR : fr + 1 ≤ R.frames ∧ 8 + (maxL + 11) + lo ≤ R.locals) (hn : As.length = n) (hsz : ls.size = nv) (hcat : (rest.map fun v => v.category).sum ≤ 8) (hf : cells + 0 ≤ R.cells ∧ slots + 0 ≤ R.slots) {st : List Value} (hst : st = As.reverse ++ .ref (adC 11 0) :: rest) (hdg : decode cc pc = .ok (.invokevirtual index, 3)) (kk : ∀ (H1 : Heap) (locs1 : List Loc), Wd D cy (AC s.heap.size adM) (cnC nS nL) adC M' H1 → Wd D cy (AM adM) cnM adM MM H1 → va_S (fun q => s.heap.size ≤ q) s.heap H1 locs1 → W p l e R s m args below meth c H1 locs1 cells slots Q (F0 m (pc + 3) ls (.long r :: rest))) : W p l e R s m args below meth c H locs cells slots Q (F0 m pc ls st) := by
  subst hst
  have hZH : ZC (AC s.heap.size adM) K s H := ZC_narrow (ZC_kept hZ hS.2.1) (fun q h => h.1)
  refine va_calll (va_runV (As := As) (rest := rest) ⟨hx, hb, hml, hown, hts⟩ hMet ⟨tb_callB hts pm.1 hl hR rfl rfl, hts _ pm.2.1, hts _ pm.2.2⟩ ⟨CPre.blind ZC_ok, by rw [hyc]; exact Wd.recv hK hC (t := 11) (by decide) cz11 (C := RX11) (T := TX11) (N := 8) rfl, fun U hU hV => ⟨rfl, by rw [hU]; exact hC, va_K.moved hV.alike hK, by rw [hU]; exact ZC_ok.2.2 s U H hV hZH⟩⟩ rfl hn hsz rfl (lv_room hcat) hdg hf) hS (fun q _ h => h.1) (fun q h => h.1) (fun r1 u t1 H1 locs1 ht1 hvm hw hB hz1 hk1 hS1 => ?_)
  subst hw
  rw [ht1] at hB
  exact kk H1 locs1 hB (hM.keptM hk1) hS1
theorem lw_cML (hx : p.tables.exec = Jvm.exec) (hb : c.code = cc) {nv : Nat} (hml : c.maxLocals = nv) {own : String} (hown : s.vm.findClass own = some m.cls) (hts : ∀ w ∈ lw_tg, w.before args s = true) (hK : va_K D vwCl (tysA cy) s) (hZ : ZC (fun q => s.heap.size ≤ q) K s s.heap) (hS : va_S (fun q => s.heap.size ≤ q) s.heap H locs) (hC : Wd D cy (AC s.heap.size adM) (cnC nS nL) adC MC H) (hM : Wd D cy (AM adM) cnM adM MM H) (hMb : ∀ q, AM adM q → s.heap.size ≤ q) {y : MethodName} {bytes : ByteArray} {maxL index n fr lo : Nat} {ret : Option FieldType} {M' : Mem} {r : Int64} (As : List Value) (hMet : Met l y (wt y bytes maxL ret) (rm fr lo) (CPre D cy (AM adM) ZT cnM adM MM (.ref (adM 12 0) :: As)) (QL D cy (AM adM) cnM adM r M') 0 0 (AM adM)) (hyc : y.cls = RX12) (pm : PMi y bytes maxL ret n) (hl : Cond.methodLink own index y ∈ lw_tg) (hR : fr + 1 ≤ R.frames ∧ 8 + (maxL + 11) + lo ≤ R.locals) (hn : As.length = n) (hsz : ls.size = nv) (hcat : (rest.map fun v => v.category).sum ≤ 8) (hf : cells + 0 ≤ R.cells ∧ slots + 0 ≤ R.slots) {st : List Value} (hst : st = As.reverse ++ .ref (adM 12 0) :: rest) (hdg : decode cc pc = .ok (.invokevirtual index, 3)) (kk : ∀ (H1 : Heap) (locs1 : List Loc), Wd D cy (AC s.heap.size adM) (cnC nS nL) adC MC H1 → Wd D cy (AM adM) cnM adM M' H1 → va_S (fun q => s.heap.size ≤ q) s.heap H1 locs1 → W p l e R s m args below meth c H1 locs1 cells slots Q (F0 m (pc + 3) ls (.long r :: rest))) : W p l e R s m args below meth c H locs cells slots Q (F0 m pc ls st) := by
  subst hst
  refine va_calll (va_runV (As := As) (rest := rest) ⟨hx, hb, hml, hown, hts⟩ hMet ⟨tb_callB hts pm.1 hl hR rfl rfl, hts _ pm.2.1, hts _ pm.2.2⟩ ⟨CPre.blind ZT_ok, by rw [hyc]; exact Wd.recv hK hM (t := 12) (by decide) cz12 (C := RX12) (T := TX12) (N := 58) rfl, fun U hU hV => ⟨rfl, by rw [hU]; exact hM, va_K.moved hV.alike hK, trivial⟩⟩ rfl hn hsz rfl (lv_room hcat) hdg hf) hS (fun q _ h => hMb q h) (fun q h => hMb q h) (fun r1 u t1 H1 locs1 ht1 hvm hw hB hz1 hk1 hS1 => ?_)
  subst hw
  rw [ht1] at hB
  exact kk H1 locs1 (hC.keptC hk1) hB hS1
theorem lw_cCA (hx : p.tables.exec = Jvm.exec) (hb : c.code = cc) {nv : Nat} (hml : c.maxLocals = nv) {own : String} (hown : s.vm.findClass own = some m.cls) (hts : ∀ w ∈ lw_tg, w.before args s = true) (hK : va_K D vwCl (tysA cy) s) (hZ : ZC (fun q => s.heap.size ≤ q) K s s.heap) (hS : va_S (fun q => s.heap.size ≤ q) s.heap H locs) (hC : Wd D cy (AC s.heap.size adM) (cnC nS nL) adC MC H) (hM : Wd D cy (AM adM) cnM adM MM H) (hMb : ∀ q, AM adM q → s.heap.size ≤ q) {y : MethodName} {bytes : ByteArray} {maxL index n fr lo mc ms nS' nL' : Nat} {ret : Option FieldType} {M' : Mem} {r : Int32} (As : List Value) (hMet : Met l y (wt y bytes maxL ret) (rmk fr mc ms lo) (CPreA D cy (AC s.heap.size adM) (ZC (AC s.heap.size adM) K) (cnC nS nL) adC MC (.ref (adC 11 0) :: As)) (QG D cy (AC s.heap.size adM) nS nL adC r M' nS' nL') mc ms (AC s.heap.size adM)) (hyc : y.cls = RX11) (pm : PMi y bytes maxL ret n) (hl : Cond.methodLink own index y ∈ lw_tg) (hR : fr + 1 ≤ R.frames ∧ 8 + (maxL + 11) + lo ≤ R.locals) (hn : As.length = n) (hsz : ls.size = nv) (hcat : (rest.map fun v => v.category).sum ≤ 8) (hf : cells + mc ≤ R.cells ∧ slots + ms ≤ R.slots) {st : List Value} (hst : st = As.reverse ++ .ref (adC 11 0) :: rest) (hdg : decode cc pc = .ok (.invokevirtual index, 3)) (kk : ∀ (ad2 : Nat → Nat → Nat) (H1 : Heap) (locs1 : List Loc), Wd D cy (AC s.heap.size adM) (cnC nS' nL') ad2 M' H1 → (∀ t i, i < cnC nS nL t → ad2 t i = adC t i) → Wd D cy (AM adM) cnM adM MM H1 → va_S (fun q => s.heap.size ≤ q) s.heap H1 locs1 → W p l e R s m args below meth c H1 locs1 (cells + mc) (slots + ms) Q (F0 m (pc + 3) ls (.int r :: rest))) : W p l e R s m args below meth c H locs cells slots Q (F0 m pc ls st) := by
  subst hst
  have hZH : ZC (AC s.heap.size adM) K s H := ZC_narrow (ZC_kept hZ hS.2.1) (fun q h => h.1)
  have hAn : ∀ q, H.size ≤ q → AC s.heap.size adM q := fun q hq => ⟨Nat.le_trans hS.1 hq, fun ⟨t, i, h1, h2, h3⟩ => by
    have := hM.lt h1 h2
    omega⟩
  refine va_calli (va_runV (As := As) (rest := rest) ⟨hx, hb, hml, hown, hts⟩ hMet ⟨tb_callB hts pm.1 hl hR rfl rfl, hts _ pm.2.1, hts _ pm.2.2⟩ ⟨CPreA.blind ZC_ok, by rw [hyc]; exact Wd.recv hK hC (t := 11) (by decide) cz11 (C := RX11) (T := TX11) (N := 8) rfl, fun U hU hV => ⟨rfl, ⟨by rw [hU]; exact hC, va_K.moved hV.alike hK, by rw [hU]; exact ZC_ok.2.2 s U H hV hZH⟩, by rw [hU]; exact hAn⟩⟩ rfl hn hsz rfl (lv_room hcat) hdg hf) hS (fun q _ h => h.1) (fun q h => h.1) (fun r1 u t1 H1 locs1 ht1 hvm hw hB hz1 hk1 hS1 => ?_)
  subst hw
  obtain ⟨hB1, hB2, hB3⟩ := hB
  rw [ht1] at hB1
  exact kk u H1 locs1 hB1 hB2 (hM.keptM hk1) hS1
end LW
theorem law_gt {L k : Nat} (hL : L ≤ 384) (h1 : 6 * k ≤ L) (h : L < 6 * k + 6) : nI L - (6 : Int32) < nI (6 * k) := by
  have e6 : (6 : Int32) = nI 6 := rfl
  rw [e6]
  refine Int32.lt_iff_toInt_lt.mpr ?_
  rw [pk_sub_toInt (by omega) (by omega), nI_toInt (by omega)]
  omega
theorem law_ngt {L k : Nat} (hL : L ≤ 384) (h : 6 * k + 6 ≤ L) : ¬ nI L - (6 : Int32) < nI (6 * k) := by
  have e6 : (6 : Int32) = nI 6 := rfl
  rw [e6]
  intro hc
  have hc := Int32.lt_iff_toInt_lt.mp hc
  rw [pk_sub_toInt (by omega) (by omega), nI_toInt (by omega)] at hc
  omega
/-- what the cases of the law's loop share -/
def LwC (p : Program) (l : Launch) (e : Env) (s : State) (m : MethodId) (below : List Frame) (meth : Method) (c : Code) (D : va_G) (cy : Nat → ClassId) (K : KC) (adM : Nat → Nat → Nat) (b L : Nat) (xs : Nat → Int32) : Prop :=
  p.tables.exec = Jvm.exec ∧ c.code = code ∧ c.maxLocals = 4 ∧ s.vm.findClass RL = some m.cls ∧ (∀ w ∈ lw_tg, w.before #[Value.ref b] s = true) ∧ va_X b L xs s s.heap ∧ b < s.heap.size ∧ va_K D vwCl (tysA cy) s ∧ ZC (fun q => s.heap.size ≤ q) K s s.heap ∧ ∀ q, AM adM q → s.heap.size ≤ q
/-- the loop's goal at its head with k calls behind it -/
def LwG (p : Program) (l : Launch) (e : Env) (s : State) (m : MethodId) (below : List Frame) (meth : Method) (c : Code) (D : va_G) (cy : Nat → ClassId) (adM : Nat → Nat → Nat) (b : Nat) (Sim : Nat → Mem → Mem → Nat → Nat → Prop) (pc k : Nat) : Prop :=
  ∀ (MC MM : Mem) (nS nL : Nat) (adC : Nat → Nat → Nat) (H : Heap) (locs : List Loc) (ls : Array Slot), Sim k MC MM nS nL → Wd D cy (AC s.heap.size adM) (cnC nS nL) adC MC H → Wd D cy (AM adM) cnM adM MM H → va_S (fun q => s.heap.size ≤ q) s.heap H locs → lv_has ls 4 [(0, .ref b), (1, .ref (adC 11 0)), (2, .ref (adM 12 0)), (3, .int (nI (6 * k)))] → W p l e room_1 s m #[Value.ref b] below meth c H locs (82 + 20 * k) (9444 + 120 * k) (lw_Z below #[Value.ref b] s) (F0 m pc ls [])
set_option maxHeartbeats 4000000 in
set_option maxRecDepth 100000 in
theorem law_case0 {p : Program} {l : Launch} {e : Env} {s : State} {m : MethodId} {below : List Frame} {meth : Method} {c : Code} {D : va_G} {cy : Nat → ClassId} {K : KC} {adM : Nat → Nat → Nat} {b L : Nat} {xs : Nat → Int32} {Sim : Nat → Mem → Mem → Nat → Nat → Prop} (C0 : LwC p l e s m below meth c D cy K adM b L xs) (hs_stone : ∀ (k : Nat) (MC MM : Mem) (nS nL : Nat) (a1 : Int32) (a2 : Int32) (a3 : Int32), k < 64 → Sim k MC MM nS nL → ∃ (r : Int32) (MC' : Mem) (nS' nL' : Nat) (MM' : Mem), fX11_stone nS nL a1 a2 a3 MC = some ((r, nS', nL'), MC') ∧ fX12_stone a1 a2 a3 MM = some (r, MM') ∧ Sim (k + 1) MC' MM' nS' nL') (k : Nat) (hk64 : k < 64) (hin : ∀ j : Nat, j < 6 → vp_in (nI (6 * k) + nI j) L) (ih : LwG p l e s m below meth c D cy adM b Sim 18 (k + 1)) : LwG p l e s m below meth c D cy adM b Sim 216 k := by
  obtain ⟨hx, hb, hml, hown, hts, hX, hbl, hK, hZ, hMb⟩ := C0
  intro MC MM nS nL adC H locs ls hs hC hM hS hl
  have hbA : ¬ (fun q : Nat => s.heap.size ≤ q) b := Nat.not_le.mpr hbl
  have hin1 : vp_in (nI (6 * k) + (1 : Int32)) L := hin 1 (by decide)
  have hin2 : vp_in (nI (6 * k) + (2 : Int32)) L := hin 2 (by decide)
  have hin3 : vp_in (nI (6 * k) + (3 : Int32)) L := hin 3 (by decide)
  have hin4 : vp_in (nI (6 * k) + (4 : Int32)) L := hin 4 (by decide)
  have hin5 : vp_in (nI (6 * k) + (5 : Int32)) L := hin 5 (by decide)
  refine lv_aload_n hx hb dL_law_216 rfl (lv_at hl 1 rfl) ?_
  refine lv_aload_n hx hb dL_law_217 rfl (lv_at hl 0 rfl) ?_
  refine lv_iload_n hx hb dL_law_218 rfl (lv_at hl 3 rfl) ?_
  refine lv_iconst (v := (1 : Int32)) hx hb dL_law_219 (by decide) ?_
  refine lv_iadd hx hb dL_law_220 ?_
  refine va_sld hx hb hX hbl hbA hS hin1 dL_law_221 ?_
  refine lv_aload_n hx hb dL_law_222 rfl (lv_at hl 0 rfl) ?_
  refine lv_iload_n hx hb dL_law_223 rfl (lv_at hl 3 rfl) ?_
  refine lv_iconst (v := (2 : Int32)) hx hb dL_law_224 (by decide) ?_
  refine lv_iadd hx hb dL_law_225 ?_
  refine va_sld hx hb hX hbl hbA hS hin2 dL_law_226 ?_
  refine lv_aload_n hx hb dL_law_227 rfl (lv_at hl 0 rfl) ?_
  refine lv_iload_n hx hb dL_law_228 rfl (lv_at hl 3 rfl) ?_
  refine lv_iconst (v := (3 : Int32)) hx hb dL_law_229 (by decide) ?_
  refine lv_iadd hx hb dL_law_230 ?_
  refine va_sld hx hb hX hbl hbA hS hin3 dL_law_231 ?_
  obtain ⟨r, MC', nS', nL', MM', hc1, hc2, hs2⟩ := hs_stone k MC MM nS nL (xs (nI (6 * k) + (1 : Int32)).toNatClampNeg) (xs (nI (6 * k) + (2 : Int32)).toNatClampNeg) (xs (nI (6 * k) + (3 : Int32)).toNatClampNeg) hk64 hs
  refine lw_cCA hx hb hml hown hts hK hZ hS hC hM hMb [.int (xs (nI (6 * k) + (1 : Int32)).toNatClampNeg), .int (xs (nI (6 * k) + (2 : Int32)).toNatClampNeg), .int (xs (nI (6 * k) + (3 : Int32)).toNatClampNeg)] (mX11_stone (l := l) ZC_ok (xs (nI (6 * k) + (1 : Int32)).toNatClampNeg) (xs (nI (6 * k) + (2 : Int32)).toNatClampNeg) (xs (nI (6 * k) + (3 : Int32)).toNatClampNeg) MC r MC' nS' nL' hc1) rfl pmX11_stone tw398 ⟨Nat.le_of_ble_eq_true rfl, Nat.le_of_ble_eq_true rfl⟩ rfl hl.1 (Nat.le_of_ble_eq_true rfl) ⟨(show 82 + 20 * k + 2 ≤ 600000 by omega), (show 9444 + 120 * k + 36 ≤ 7302250 by omega)⟩ rfl dL_law_232 (fun ad2 H locs hC had hM hS => ?_)
  have e11 := had 11 0 cz11
  rw [← e11] at hl
  refine lv_aload_n hx hb dL_law_235 rfl (lv_at hl 2 rfl) ?_
  refine lv_aload_n hx hb dL_law_236 rfl (lv_at hl 0 rfl) ?_
  refine lv_iload_n hx hb dL_law_237 rfl (lv_at hl 3 rfl) ?_
  refine lv_iconst (v := (1 : Int32)) hx hb dL_law_238 (by decide) ?_
  refine lv_iadd hx hb dL_law_239 ?_
  refine va_sld hx hb hX hbl hbA hS hin1 dL_law_240 ?_
  refine lv_aload_n hx hb dL_law_241 rfl (lv_at hl 0 rfl) ?_
  refine lv_iload_n hx hb dL_law_242 rfl (lv_at hl 3 rfl) ?_
  refine lv_iconst (v := (2 : Int32)) hx hb dL_law_243 (by decide) ?_
  refine lv_iadd hx hb dL_law_244 ?_
  refine va_sld hx hb hX hbl hbA hS hin2 dL_law_245 ?_
  refine lv_aload_n hx hb dL_law_246 rfl (lv_at hl 0 rfl) ?_
  refine lv_iload_n hx hb dL_law_247 rfl (lv_at hl 3 rfl) ?_
  refine lv_iconst (v := (3 : Int32)) hx hb dL_law_248 (by decide) ?_
  refine lv_iadd hx hb dL_law_249 ?_
  refine va_sld hx hb hX hbl hbA hS hin3 dL_law_250 ?_
  refine lw_cMI hx hb hml hown hts hK hZ hS hC hM hMb [.int (xs (nI (6 * k) + (1 : Int32)).toNatClampNeg), .int (xs (nI (6 * k) + (2 : Int32)).toNatClampNeg), .int (xs (nI (6 * k) + (3 : Int32)).toNatClampNeg)] (mX12_stone (l := l) ZT_ok (xs (nI (6 * k) + (1 : Int32)).toNatClampNeg) (xs (nI (6 * k) + (2 : Int32)).toNatClampNeg) (xs (nI (6 * k) + (3 : Int32)).toNatClampNeg) MM r MM' hc2) rfl pmX12_stone tw1397 ⟨Nat.le_of_ble_eq_true rfl, Nat.le_of_ble_eq_true rfl⟩ rfl hl.1 (Nat.le_of_ble_eq_true rfl) ⟨(show 82 + 20 * k + 2 + 0 ≤ 600000 by omega), (show 9444 + 120 * k + 36 + 0 ≤ 7302250 by omega)⟩ rfl dL_law_251 (fun H locs hC hM hS => ?_)
  refine lv_icmp_eq (tgt := 1594) hx hb dL_law_254 (by decide) (fun _ => ?_) (fun hc => absurd rfl hc)
  refine lv_iinc (v := nI (6 * (k + 1))) (lv' := [(3, .int (nI (6 * (k + 1)))), (0, .ref b), (1, .ref (ad2 11 0)), (2, .ref (adM 12 0))]) hx hb dL_law_1594 hl (k := 3) rfl (nI_add (6 * k) 6) (by decide) rfl (fun ls hl => ?_)
  refine lv_goto (tgt := 18) hx hb dL_law_1597 (by decide) ?_
  refine W.widen (k := 82 + 20 * (k + 1)) (n := 9444 + 120 * (k + 1)) (by omega) (by omega) ?_
  exact ih MC' MM' nS' nL' ad2 _ _ _ hs2 hC hM hS (lv_sub hl [1, 2, 3, 0] rfl)
set_option maxHeartbeats 4000000 in
set_option maxRecDepth 100000 in
theorem law_case1 {p : Program} {l : Launch} {e : Env} {s : State} {m : MethodId} {below : List Frame} {meth : Method} {c : Code} {D : va_G} {cy : Nat → ClassId} {K : KC} {adM : Nat → Nat → Nat} {b L : Nat} {xs : Nat → Int32} {Sim : Nat → Mem → Mem → Nat → Nat → Prop} (C0 : LwC p l e s m below meth c D cy K adM b L xs) (hs_line : ∀ (k : Nat) (MC MM : Mem) (nS nL : Nat) (a1 : Int32) (a2 : Int32) (a3 : Int32), k < 64 → Sim k MC MM nS nL → ∃ (r : Int32) (MC' : Mem) (nS' nL' : Nat) (MM' : Mem), fX11_line nS nL a1 a2 a3 MC = some ((r, nS', nL'), MC') ∧ fX12_line a1 a2 a3 MM = some (r, MM') ∧ Sim (k + 1) MC' MM' nS' nL') (k : Nat) (hk64 : k < 64) (hin : ∀ j : Nat, j < 6 → vp_in (nI (6 * k) + nI j) L) (ih : LwG p l e s m below meth c D cy adM b Sim 18 (k + 1)) : LwG p l e s m below meth c D cy adM b Sim 259 k := by
  obtain ⟨hx, hb, hml, hown, hts, hX, hbl, hK, hZ, hMb⟩ := C0
  intro MC MM nS nL adC H locs ls hs hC hM hS hl
  have hbA : ¬ (fun q : Nat => s.heap.size ≤ q) b := Nat.not_le.mpr hbl
  have hin1 : vp_in (nI (6 * k) + (1 : Int32)) L := hin 1 (by decide)
  have hin2 : vp_in (nI (6 * k) + (2 : Int32)) L := hin 2 (by decide)
  have hin3 : vp_in (nI (6 * k) + (3 : Int32)) L := hin 3 (by decide)
  have hin4 : vp_in (nI (6 * k) + (4 : Int32)) L := hin 4 (by decide)
  have hin5 : vp_in (nI (6 * k) + (5 : Int32)) L := hin 5 (by decide)
  refine lv_aload_n hx hb dL_law_259 rfl (lv_at hl 1 rfl) ?_
  refine lv_aload_n hx hb dL_law_260 rfl (lv_at hl 0 rfl) ?_
  refine lv_iload_n hx hb dL_law_261 rfl (lv_at hl 3 rfl) ?_
  refine lv_iconst (v := (1 : Int32)) hx hb dL_law_262 (by decide) ?_
  refine lv_iadd hx hb dL_law_263 ?_
  refine va_sld hx hb hX hbl hbA hS hin1 dL_law_264 ?_
  refine lv_aload_n hx hb dL_law_265 rfl (lv_at hl 0 rfl) ?_
  refine lv_iload_n hx hb dL_law_266 rfl (lv_at hl 3 rfl) ?_
  refine lv_iconst (v := (2 : Int32)) hx hb dL_law_267 (by decide) ?_
  refine lv_iadd hx hb dL_law_268 ?_
  refine va_sld hx hb hX hbl hbA hS hin2 dL_law_269 ?_
  refine lv_aload_n hx hb dL_law_270 rfl (lv_at hl 0 rfl) ?_
  refine lv_iload_n hx hb dL_law_271 rfl (lv_at hl 3 rfl) ?_
  refine lv_iconst (v := (3 : Int32)) hx hb dL_law_272 (by decide) ?_
  refine lv_iadd hx hb dL_law_273 ?_
  refine va_sld hx hb hX hbl hbA hS hin3 dL_law_274 ?_
  obtain ⟨r, MC', nS', nL', MM', hc1, hc2, hs2⟩ := hs_line k MC MM nS nL (xs (nI (6 * k) + (1 : Int32)).toNatClampNeg) (xs (nI (6 * k) + (2 : Int32)).toNatClampNeg) (xs (nI (6 * k) + (3 : Int32)).toNatClampNeg) hk64 hs
  refine lw_cCA hx hb hml hown hts hK hZ hS hC hM hMb [.int (xs (nI (6 * k) + (1 : Int32)).toNatClampNeg), .int (xs (nI (6 * k) + (2 : Int32)).toNatClampNeg), .int (xs (nI (6 * k) + (3 : Int32)).toNatClampNeg)] (mX11_line (l := l) ZC_ok (xs (nI (6 * k) + (1 : Int32)).toNatClampNeg) (xs (nI (6 * k) + (2 : Int32)).toNatClampNeg) (xs (nI (6 * k) + (3 : Int32)).toNatClampNeg) MC r MC' nS' nL' hc1) rfl pmX11_line tw498 ⟨Nat.le_of_ble_eq_true rfl, Nat.le_of_ble_eq_true rfl⟩ rfl hl.1 (Nat.le_of_ble_eq_true rfl) ⟨(show 82 + 20 * k + 1 ≤ 600000 by omega), (show 9444 + 120 * k + 6 ≤ 7302250 by omega)⟩ rfl dL_law_275 (fun ad2 H locs hC had hM hS => ?_)
  have e11 := had 11 0 cz11
  rw [← e11] at hl
  refine lv_aload_n hx hb dL_law_278 rfl (lv_at hl 2 rfl) ?_
  refine lv_aload_n hx hb dL_law_279 rfl (lv_at hl 0 rfl) ?_
  refine lv_iload_n hx hb dL_law_280 rfl (lv_at hl 3 rfl) ?_
  refine lv_iconst (v := (1 : Int32)) hx hb dL_law_281 (by decide) ?_
  refine lv_iadd hx hb dL_law_282 ?_
  refine va_sld hx hb hX hbl hbA hS hin1 dL_law_283 ?_
  refine lv_aload_n hx hb dL_law_284 rfl (lv_at hl 0 rfl) ?_
  refine lv_iload_n hx hb dL_law_285 rfl (lv_at hl 3 rfl) ?_
  refine lv_iconst (v := (2 : Int32)) hx hb dL_law_286 (by decide) ?_
  refine lv_iadd hx hb dL_law_287 ?_
  refine va_sld hx hb hX hbl hbA hS hin2 dL_law_288 ?_
  refine lv_aload_n hx hb dL_law_289 rfl (lv_at hl 0 rfl) ?_
  refine lv_iload_n hx hb dL_law_290 rfl (lv_at hl 3 rfl) ?_
  refine lv_iconst (v := (3 : Int32)) hx hb dL_law_291 (by decide) ?_
  refine lv_iadd hx hb dL_law_292 ?_
  refine va_sld hx hb hX hbl hbA hS hin3 dL_law_293 ?_
  refine lw_cMI hx hb hml hown hts hK hZ hS hC hM hMb [.int (xs (nI (6 * k) + (1 : Int32)).toNatClampNeg), .int (xs (nI (6 * k) + (2 : Int32)).toNatClampNeg), .int (xs (nI (6 * k) + (3 : Int32)).toNatClampNeg)] (mX12_line (l := l) ZT_ok (xs (nI (6 * k) + (1 : Int32)).toNatClampNeg) (xs (nI (6 * k) + (2 : Int32)).toNatClampNeg) (xs (nI (6 * k) + (3 : Int32)).toNatClampNeg) MM r MM' hc2) rfl pmX12_line tw1407 ⟨Nat.le_of_ble_eq_true rfl, Nat.le_of_ble_eq_true rfl⟩ rfl hl.1 (Nat.le_of_ble_eq_true rfl) ⟨(show 82 + 20 * k + 1 + 0 ≤ 600000 by omega), (show 9444 + 120 * k + 6 + 0 ≤ 7302250 by omega)⟩ rfl dL_law_294 (fun H locs hC hM hS => ?_)
  refine lv_icmp_eq (tgt := 1594) hx hb dL_law_297 (by decide) (fun _ => ?_) (fun hc => absurd rfl hc)
  refine lv_iinc (v := nI (6 * (k + 1))) (lv' := [(3, .int (nI (6 * (k + 1)))), (0, .ref b), (1, .ref (ad2 11 0)), (2, .ref (adM 12 0))]) hx hb dL_law_1594 hl (k := 3) rfl (nI_add (6 * k) 6) (by decide) rfl (fun ls hl => ?_)
  refine lv_goto (tgt := 18) hx hb dL_law_1597 (by decide) ?_
  refine W.widen (k := 82 + 20 * (k + 1)) (n := 9444 + 120 * (k + 1)) (by omega) (by omega) ?_
  exact ih MC' MM' nS' nL' ad2 _ _ _ hs2 hC hM hS (lv_sub hl [1, 2, 3, 0] rfl)
set_option maxHeartbeats 4000000 in
set_option maxRecDepth 100000 in
theorem law_case2 {p : Program} {l : Launch} {e : Env} {s : State} {m : MethodId} {below : List Frame} {meth : Method} {c : Code} {D : va_G} {cy : Nat → ClassId} {K : KC} {adM : Nat → Nat → Nat} {b L : Nat} {xs : Nat → Int32} {Sim : Nat → Mem → Mem → Nat → Nat → Prop} (C0 : LwC p l e s m below meth c D cy K adM b L xs) (hs_citings : ∀ (k : Nat) (MC MM : Mem) (nS nL : Nat) (a1 : Int32) (a2 : Int32) (a3 : Int32) (a4 : Int32), k < 64 → Sim k MC MM nS nL → ∃ (r : Int32) (MC' : Mem) (nS' nL' : Nat) (MM' : Mem), fX11_citings nS nL a1 a2 a3 a4 MC = some ((r, nS', nL'), MC') ∧ fX12_citings a1 a2 a3 a4 MM = some (r, MM') ∧ Sim (k + 1) MC' MM' nS' nL') (k : Nat) (hk64 : k < 64) (hin : ∀ j : Nat, j < 6 → vp_in (nI (6 * k) + nI j) L) (ih : LwG p l e s m below meth c D cy adM b Sim 18 (k + 1)) : LwG p l e s m below meth c D cy adM b Sim 302 k := by
  obtain ⟨hx, hb, hml, hown, hts, hX, hbl, hK, hZ, hMb⟩ := C0
  intro MC MM nS nL adC H locs ls hs hC hM hS hl
  have hbA : ¬ (fun q : Nat => s.heap.size ≤ q) b := Nat.not_le.mpr hbl
  have hin1 : vp_in (nI (6 * k) + (1 : Int32)) L := hin 1 (by decide)
  have hin2 : vp_in (nI (6 * k) + (2 : Int32)) L := hin 2 (by decide)
  have hin3 : vp_in (nI (6 * k) + (3 : Int32)) L := hin 3 (by decide)
  have hin4 : vp_in (nI (6 * k) + (4 : Int32)) L := hin 4 (by decide)
  have hin5 : vp_in (nI (6 * k) + (5 : Int32)) L := hin 5 (by decide)
  refine lv_aload_n hx hb dL_law_302 rfl (lv_at hl 1 rfl) ?_
  refine lv_aload_n hx hb dL_law_303 rfl (lv_at hl 0 rfl) ?_
  refine lv_iload_n hx hb dL_law_304 rfl (lv_at hl 3 rfl) ?_
  refine lv_iconst (v := (1 : Int32)) hx hb dL_law_305 (by decide) ?_
  refine lv_iadd hx hb dL_law_306 ?_
  refine va_sld hx hb hX hbl hbA hS hin1 dL_law_307 ?_
  refine lv_aload_n hx hb dL_law_308 rfl (lv_at hl 0 rfl) ?_
  refine lv_iload_n hx hb dL_law_309 rfl (lv_at hl 3 rfl) ?_
  refine lv_iconst (v := (2 : Int32)) hx hb dL_law_310 (by decide) ?_
  refine lv_iadd hx hb dL_law_311 ?_
  refine va_sld hx hb hX hbl hbA hS hin2 dL_law_312 ?_
  refine lv_aload_n hx hb dL_law_313 rfl (lv_at hl 0 rfl) ?_
  refine lv_iload_n hx hb dL_law_314 rfl (lv_at hl 3 rfl) ?_
  refine lv_iconst (v := (3 : Int32)) hx hb dL_law_315 (by decide) ?_
  refine lv_iadd hx hb dL_law_316 ?_
  refine va_sld hx hb hX hbl hbA hS hin3 dL_law_317 ?_
  refine lv_aload_n hx hb dL_law_318 rfl (lv_at hl 0 rfl) ?_
  refine lv_iload_n hx hb dL_law_319 rfl (lv_at hl 3 rfl) ?_
  refine lv_iconst (v := (4 : Int32)) hx hb dL_law_320 (by decide) ?_
  refine lv_iadd hx hb dL_law_321 ?_
  refine va_sld hx hb hX hbl hbA hS hin4 dL_law_322 ?_
  obtain ⟨r, MC', nS', nL', MM', hc1, hc2, hs2⟩ := hs_citings k MC MM nS nL (xs (nI (6 * k) + (1 : Int32)).toNatClampNeg) (xs (nI (6 * k) + (2 : Int32)).toNatClampNeg) (xs (nI (6 * k) + (3 : Int32)).toNatClampNeg) (xs (nI (6 * k) + (4 : Int32)).toNatClampNeg) hk64 hs
  refine lw_cCA hx hb hml hown hts hK hZ hS hC hM hMb [.int (xs (nI (6 * k) + (1 : Int32)).toNatClampNeg), .int (xs (nI (6 * k) + (2 : Int32)).toNatClampNeg), .int (xs (nI (6 * k) + (3 : Int32)).toNatClampNeg), .int (xs (nI (6 * k) + (4 : Int32)).toNatClampNeg)] (mX11_citings (l := l) ZC_ok (xs (nI (6 * k) + (1 : Int32)).toNatClampNeg) (xs (nI (6 * k) + (2 : Int32)).toNatClampNeg) (xs (nI (6 * k) + (3 : Int32)).toNatClampNeg) (xs (nI (6 * k) + (4 : Int32)).toNatClampNeg) MC r MC' nS' nL' hc1) rfl pmX11_citings tw576 ⟨Nat.le_of_ble_eq_true rfl, Nat.le_of_ble_eq_true rfl⟩ rfl hl.1 (Nat.le_of_ble_eq_true rfl) ⟨(show 82 + 20 * k + 20 ≤ 600000 by omega), (show 9444 + 120 * k + 120 ≤ 7302250 by omega)⟩ rfl dL_law_323 (fun ad2 H locs hC had hM hS => ?_)
  have e11 := had 11 0 cz11
  rw [← e11] at hl
  refine lv_aload_n hx hb dL_law_326 rfl (lv_at hl 2 rfl) ?_
  refine lv_aload_n hx hb dL_law_327 rfl (lv_at hl 0 rfl) ?_
  refine lv_iload_n hx hb dL_law_328 rfl (lv_at hl 3 rfl) ?_
  refine lv_iconst (v := (1 : Int32)) hx hb dL_law_329 (by decide) ?_
  refine lv_iadd hx hb dL_law_330 ?_
  refine va_sld hx hb hX hbl hbA hS hin1 dL_law_331 ?_
  refine lv_aload_n hx hb dL_law_332 rfl (lv_at hl 0 rfl) ?_
  refine lv_iload_n hx hb dL_law_333 rfl (lv_at hl 3 rfl) ?_
  refine lv_iconst (v := (2 : Int32)) hx hb dL_law_334 (by decide) ?_
  refine lv_iadd hx hb dL_law_335 ?_
  refine va_sld hx hb hX hbl hbA hS hin2 dL_law_336 ?_
  refine lv_aload_n hx hb dL_law_337 rfl (lv_at hl 0 rfl) ?_
  refine lv_iload_n hx hb dL_law_338 rfl (lv_at hl 3 rfl) ?_
  refine lv_iconst (v := (3 : Int32)) hx hb dL_law_339 (by decide) ?_
  refine lv_iadd hx hb dL_law_340 ?_
  refine va_sld hx hb hX hbl hbA hS hin3 dL_law_341 ?_
  refine lv_aload_n hx hb dL_law_342 rfl (lv_at hl 0 rfl) ?_
  refine lv_iload_n hx hb dL_law_343 rfl (lv_at hl 3 rfl) ?_
  refine lv_iconst (v := (4 : Int32)) hx hb dL_law_344 (by decide) ?_
  refine lv_iadd hx hb dL_law_345 ?_
  refine va_sld hx hb hX hbl hbA hS hin4 dL_law_346 ?_
  refine lw_cMI hx hb hml hown hts hK hZ hS hC hM hMb [.int (xs (nI (6 * k) + (1 : Int32)).toNatClampNeg), .int (xs (nI (6 * k) + (2 : Int32)).toNatClampNeg), .int (xs (nI (6 * k) + (3 : Int32)).toNatClampNeg), .int (xs (nI (6 * k) + (4 : Int32)).toNatClampNeg)] (mX12_citings (l := l) ZT_ok (xs (nI (6 * k) + (1 : Int32)).toNatClampNeg) (xs (nI (6 * k) + (2 : Int32)).toNatClampNeg) (xs (nI (6 * k) + (3 : Int32)).toNatClampNeg) (xs (nI (6 * k) + (4 : Int32)).toNatClampNeg) MM r MM' hc2) rfl pmX12_citings tw1423 ⟨Nat.le_of_ble_eq_true rfl, Nat.le_of_ble_eq_true rfl⟩ rfl hl.1 (Nat.le_of_ble_eq_true rfl) ⟨(show 82 + 20 * k + 20 + 0 ≤ 600000 by omega), (show 9444 + 120 * k + 120 + 0 ≤ 7302250 by omega)⟩ rfl dL_law_347 (fun H locs hC hM hS => ?_)
  refine lv_icmp_eq (tgt := 1594) hx hb dL_law_350 (by decide) (fun _ => ?_) (fun hc => absurd rfl hc)
  refine lv_iinc (v := nI (6 * (k + 1))) (lv' := [(3, .int (nI (6 * (k + 1)))), (0, .ref b), (1, .ref (ad2 11 0)), (2, .ref (adM 12 0))]) hx hb dL_law_1594 hl (k := 3) rfl (nI_add (6 * k) 6) (by decide) rfl (fun ls hl => ?_)
  refine lv_goto (tgt := 18) hx hb dL_law_1597 (by decide) ?_
  refine W.widen (k := 82 + 20 * (k + 1)) (n := 9444 + 120 * (k + 1)) (by omega) (by omega) ?_
  exact ih MC' MM' nS' nL' ad2 _ _ _ hs2 hC hM hS (lv_sub hl [1, 2, 3, 0] rfl)
set_option maxHeartbeats 4000000 in
set_option maxRecDepth 100000 in
theorem law_case3 {p : Program} {l : Launch} {e : Env} {s : State} {m : MethodId} {below : List Frame} {meth : Method} {c : Code} {D : va_G} {cy : Nat → ClassId} {K : KC} {adM : Nat → Nat → Nat} {b L : Nat} {xs : Nat → Int32} {Sim : Nat → Mem → Mem → Nat → Nat → Prop} (C0 : LwC p l e s m below meth c D cy K adM b L xs) (hs_ofStone : ∀ (k : Nat) (MC MM : Mem) (nS nL : Nat) (a1 : Int32) (a2 : Int32), k < 64 → Sim k MC MM nS nL → ∃ (r : Int32) (MC' : Mem) (MM' : Mem), fX11_ofStone a1 a2 MC = some (r, MC') ∧ fX12_ofStone a1 a2 MM = some (r, MM') ∧ Sim (k + 1) MC' MM' nS nL) (k : Nat) (hk64 : k < 64) (hin : ∀ j : Nat, j < 6 → vp_in (nI (6 * k) + nI j) L) (ih : LwG p l e s m below meth c D cy adM b Sim 18 (k + 1)) : LwG p l e s m below meth c D cy adM b Sim 355 k := by
  obtain ⟨hx, hb, hml, hown, hts, hX, hbl, hK, hZ, hMb⟩ := C0
  intro MC MM nS nL adC H locs ls hs hC hM hS hl
  have hbA : ¬ (fun q : Nat => s.heap.size ≤ q) b := Nat.not_le.mpr hbl
  have hin1 : vp_in (nI (6 * k) + (1 : Int32)) L := hin 1 (by decide)
  have hin2 : vp_in (nI (6 * k) + (2 : Int32)) L := hin 2 (by decide)
  have hin3 : vp_in (nI (6 * k) + (3 : Int32)) L := hin 3 (by decide)
  have hin4 : vp_in (nI (6 * k) + (4 : Int32)) L := hin 4 (by decide)
  have hin5 : vp_in (nI (6 * k) + (5 : Int32)) L := hin 5 (by decide)
  refine lv_aload_n hx hb dL_law_355 rfl (lv_at hl 1 rfl) ?_
  refine lv_aload_n hx hb dL_law_356 rfl (lv_at hl 0 rfl) ?_
  refine lv_iload_n hx hb dL_law_357 rfl (lv_at hl 3 rfl) ?_
  refine lv_iconst (v := (1 : Int32)) hx hb dL_law_358 (by decide) ?_
  refine lv_iadd hx hb dL_law_359 ?_
  refine va_sld hx hb hX hbl hbA hS hin1 dL_law_360 ?_
  refine lv_aload_n hx hb dL_law_361 rfl (lv_at hl 0 rfl) ?_
  refine lv_iload_n hx hb dL_law_362 rfl (lv_at hl 3 rfl) ?_
  refine lv_iconst (v := (2 : Int32)) hx hb dL_law_363 (by decide) ?_
  refine lv_iadd hx hb dL_law_364 ?_
  refine va_sld hx hb hX hbl hbA hS hin2 dL_law_365 ?_
  obtain ⟨r, MC', MM', hc1, hc2, hs2⟩ := hs_ofStone k MC MM nS nL (xs (nI (6 * k) + (1 : Int32)).toNatClampNeg) (xs (nI (6 * k) + (2 : Int32)).toNatClampNeg) hk64 hs
  refine lw_cCI hx hb hml hown hts hK hZ hS hC hM hMb [.int (xs (nI (6 * k) + (1 : Int32)).toNatClampNeg), .int (xs (nI (6 * k) + (2 : Int32)).toNatClampNeg)] (mX11_ofStone (l := l) ZC_ok (xs (nI (6 * k) + (1 : Int32)).toNatClampNeg) (xs (nI (6 * k) + (2 : Int32)).toNatClampNeg) MC r MC' hc1) rfl pmX11_ofStone tw608 ⟨Nat.le_of_ble_eq_true rfl, Nat.le_of_ble_eq_true rfl⟩ rfl hl.1 (Nat.le_of_ble_eq_true rfl) ⟨(show 82 + 20 * k + 0 ≤ 600000 by omega), (show 9444 + 120 * k + 0 ≤ 7302250 by omega)⟩ rfl dL_law_366 (fun H locs hC hM hS => ?_)
  refine lv_aload_n hx hb dL_law_369 rfl (lv_at hl 2 rfl) ?_
  refine lv_aload_n hx hb dL_law_370 rfl (lv_at hl 0 rfl) ?_
  refine lv_iload_n hx hb dL_law_371 rfl (lv_at hl 3 rfl) ?_
  refine lv_iconst (v := (1 : Int32)) hx hb dL_law_372 (by decide) ?_
  refine lv_iadd hx hb dL_law_373 ?_
  refine va_sld hx hb hX hbl hbA hS hin1 dL_law_374 ?_
  refine lv_aload_n hx hb dL_law_375 rfl (lv_at hl 0 rfl) ?_
  refine lv_iload_n hx hb dL_law_376 rfl (lv_at hl 3 rfl) ?_
  refine lv_iconst (v := (2 : Int32)) hx hb dL_law_377 (by decide) ?_
  refine lv_iadd hx hb dL_law_378 ?_
  refine va_sld hx hb hX hbl hbA hS hin2 dL_law_379 ?_
  refine lw_cMI hx hb hml hown hts hK hZ hS hC hM hMb [.int (xs (nI (6 * k) + (1 : Int32)).toNatClampNeg), .int (xs (nI (6 * k) + (2 : Int32)).toNatClampNeg)] (mX12_ofStone (l := l) ZT_ok (xs (nI (6 * k) + (1 : Int32)).toNatClampNeg) (xs (nI (6 * k) + (2 : Int32)).toNatClampNeg) MM r MM' hc2) rfl pmX12_ofStone tw1431 ⟨Nat.le_of_ble_eq_true rfl, Nat.le_of_ble_eq_true rfl⟩ rfl hl.1 (Nat.le_of_ble_eq_true rfl) ⟨(show 82 + 20 * k + 0 ≤ 600000 by omega), (show 9444 + 120 * k + 0 ≤ 7302250 by omega)⟩ rfl dL_law_380 (fun H locs hC hM hS => ?_)
  refine lv_icmp_eq (tgt := 1594) hx hb dL_law_383 (by decide) (fun _ => ?_) (fun hc => absurd rfl hc)
  refine lv_iinc (v := nI (6 * (k + 1))) (lv' := [(3, .int (nI (6 * (k + 1)))), (0, .ref b), (1, .ref (adC 11 0)), (2, .ref (adM 12 0))]) hx hb dL_law_1594 hl (k := 3) rfl (nI_add (6 * k) 6) (by decide) rfl (fun ls hl => ?_)
  refine lv_goto (tgt := 18) hx hb dL_law_1597 (by decide) ?_
  refine W.widen (k := 82 + 20 * (k + 1)) (n := 9444 + 120 * (k + 1)) (by omega) (by omega) ?_
  exact ih MC' MM' nS nL adC _ _ _ hs2 hC hM hS (lv_sub hl [1, 2, 3, 0] rfl)
set_option maxHeartbeats 4000000 in
set_option maxRecDepth 100000 in
theorem law_case4 {p : Program} {l : Launch} {e : Env} {s : State} {m : MethodId} {below : List Frame} {meth : Method} {c : Code} {D : va_G} {cy : Nat → ClassId} {K : KC} {adM : Nat → Nat → Nat} {b L : Nat} {xs : Nat → Int32} {Sim : Nat → Mem → Mem → Nat → Nat → Prop} (C0 : LwC p l e s m below meth c D cy K adM b L xs) (hs_worth : ∀ (k : Nat) (MC MM : Mem) (nS nL : Nat) (a1 : Int32), k < 64 → Sim k MC MM nS nL → ∃ (r : Int32) (MC' : Mem) (MM' : Mem), fX11_worth a1 MC = some (r, MC') ∧ fX12_worth a1 MM = some (r, MM') ∧ Sim (k + 1) MC' MM' nS nL) (k : Nat) (hk64 : k < 64) (hin : ∀ j : Nat, j < 6 → vp_in (nI (6 * k) + nI j) L) (ih : LwG p l e s m below meth c D cy adM b Sim 18 (k + 1)) : LwG p l e s m below meth c D cy adM b Sim 388 k := by
  obtain ⟨hx, hb, hml, hown, hts, hX, hbl, hK, hZ, hMb⟩ := C0
  intro MC MM nS nL adC H locs ls hs hC hM hS hl
  have hbA : ¬ (fun q : Nat => s.heap.size ≤ q) b := Nat.not_le.mpr hbl
  have hin1 : vp_in (nI (6 * k) + (1 : Int32)) L := hin 1 (by decide)
  have hin2 : vp_in (nI (6 * k) + (2 : Int32)) L := hin 2 (by decide)
  have hin3 : vp_in (nI (6 * k) + (3 : Int32)) L := hin 3 (by decide)
  have hin4 : vp_in (nI (6 * k) + (4 : Int32)) L := hin 4 (by decide)
  have hin5 : vp_in (nI (6 * k) + (5 : Int32)) L := hin 5 (by decide)
  refine lv_aload_n hx hb dL_law_388 rfl (lv_at hl 1 rfl) ?_
  refine lv_aload_n hx hb dL_law_389 rfl (lv_at hl 0 rfl) ?_
  refine lv_iload_n hx hb dL_law_390 rfl (lv_at hl 3 rfl) ?_
  refine lv_iconst (v := (1 : Int32)) hx hb dL_law_391 (by decide) ?_
  refine lv_iadd hx hb dL_law_392 ?_
  refine va_sld hx hb hX hbl hbA hS hin1 dL_law_393 ?_
  obtain ⟨r, MC', MM', hc1, hc2, hs2⟩ := hs_worth k MC MM nS nL (xs (nI (6 * k) + (1 : Int32)).toNatClampNeg) hk64 hs
  refine lw_cCI hx hb hml hown hts hK hZ hS hC hM hMb [.int (xs (nI (6 * k) + (1 : Int32)).toNatClampNeg)] (mX11_worth (l := l) ZC_ok (xs (nI (6 * k) + (1 : Int32)).toNatClampNeg) MC r MC' hc1) rfl pmX11_worth tw668 ⟨Nat.le_of_ble_eq_true rfl, Nat.le_of_ble_eq_true rfl⟩ rfl hl.1 (Nat.le_of_ble_eq_true rfl) ⟨(show 82 + 20 * k + 0 ≤ 600000 by omega), (show 9444 + 120 * k + 0 ≤ 7302250 by omega)⟩ rfl dL_law_394 (fun H locs hC hM hS => ?_)
  refine lv_aload_n hx hb dL_law_397 rfl (lv_at hl 2 rfl) ?_
  refine lv_aload_n hx hb dL_law_398 rfl (lv_at hl 0 rfl) ?_
  refine lv_iload_n hx hb dL_law_399 rfl (lv_at hl 3 rfl) ?_
  refine lv_iconst (v := (1 : Int32)) hx hb dL_law_400 (by decide) ?_
  refine lv_iadd hx hb dL_law_401 ?_
  refine va_sld hx hb hX hbl hbA hS hin1 dL_law_402 ?_
  refine lw_cMI hx hb hml hown hts hK hZ hS hC hM hMb [.int (xs (nI (6 * k) + (1 : Int32)).toNatClampNeg)] (mX12_worth (l := l) ZT_ok (xs (nI (6 * k) + (1 : Int32)).toNatClampNeg) MM r MM' hc2) rfl pmX12_worth tw1475 ⟨Nat.le_of_ble_eq_true rfl, Nat.le_of_ble_eq_true rfl⟩ rfl hl.1 (Nat.le_of_ble_eq_true rfl) ⟨(show 82 + 20 * k + 0 ≤ 600000 by omega), (show 9444 + 120 * k + 0 ≤ 7302250 by omega)⟩ rfl dL_law_403 (fun H locs hC hM hS => ?_)
  refine lv_icmp_eq (tgt := 1594) hx hb dL_law_406 (by decide) (fun _ => ?_) (fun hc => absurd rfl hc)
  refine lv_iinc (v := nI (6 * (k + 1))) (lv' := [(3, .int (nI (6 * (k + 1)))), (0, .ref b), (1, .ref (adC 11 0)), (2, .ref (adM 12 0))]) hx hb dL_law_1594 hl (k := 3) rfl (nI_add (6 * k) 6) (by decide) rfl (fun ls hl => ?_)
  refine lv_goto (tgt := 18) hx hb dL_law_1597 (by decide) ?_
  refine W.widen (k := 82 + 20 * (k + 1)) (n := 9444 + 120 * (k + 1)) (by omega) (by omega) ?_
  exact ih MC' MM' nS nL adC _ _ _ hs2 hC hM hS (lv_sub hl [1, 2, 3, 0] rfl)
set_option maxHeartbeats 4000000 in
set_option maxRecDepth 100000 in
theorem law_case5 {p : Program} {l : Launch} {e : Env} {s : State} {m : MethodId} {below : List Frame} {meth : Method} {c : Code} {D : va_G} {cy : Nat → ClassId} {K : KC} {adM : Nat → Nat → Nat} {b L : Nat} {xs : Nat → Int32} {Sim : Nat → Mem → Mem → Nat → Nat → Prop} (C0 : LwC p l e s m below meth c D cy K adM b L xs) (hs_says : ∀ (k : Nat) (MC MM : Mem) (nS nL : Nat) (a1 : Int32), k < 64 → Sim k MC MM nS nL → ∃ (r : Int32) (MC' : Mem) (MM' : Mem), fX11_says a1 MC = some (r, MC') ∧ fX12_says a1 MM = some (r, MM') ∧ Sim (k + 1) MC' MM' nS nL) (k : Nat) (hk64 : k < 64) (hin : ∀ j : Nat, j < 6 → vp_in (nI (6 * k) + nI j) L) (ih : LwG p l e s m below meth c D cy adM b Sim 18 (k + 1)) : LwG p l e s m below meth c D cy adM b Sim 411 k := by
  obtain ⟨hx, hb, hml, hown, hts, hX, hbl, hK, hZ, hMb⟩ := C0
  intro MC MM nS nL adC H locs ls hs hC hM hS hl
  have hbA : ¬ (fun q : Nat => s.heap.size ≤ q) b := Nat.not_le.mpr hbl
  have hin1 : vp_in (nI (6 * k) + (1 : Int32)) L := hin 1 (by decide)
  have hin2 : vp_in (nI (6 * k) + (2 : Int32)) L := hin 2 (by decide)
  have hin3 : vp_in (nI (6 * k) + (3 : Int32)) L := hin 3 (by decide)
  have hin4 : vp_in (nI (6 * k) + (4 : Int32)) L := hin 4 (by decide)
  have hin5 : vp_in (nI (6 * k) + (5 : Int32)) L := hin 5 (by decide)
  refine lv_aload_n hx hb dL_law_411 rfl (lv_at hl 1 rfl) ?_
  refine lv_aload_n hx hb dL_law_412 rfl (lv_at hl 0 rfl) ?_
  refine lv_iload_n hx hb dL_law_413 rfl (lv_at hl 3 rfl) ?_
  refine lv_iconst (v := (1 : Int32)) hx hb dL_law_414 (by decide) ?_
  refine lv_iadd hx hb dL_law_415 ?_
  refine va_sld hx hb hX hbl hbA hS hin1 dL_law_416 ?_
  obtain ⟨r, MC', MM', hc1, hc2, hs2⟩ := hs_says k MC MM nS nL (xs (nI (6 * k) + (1 : Int32)).toNatClampNeg) hk64 hs
  refine lw_cCI hx hb hml hown hts hK hZ hS hC hM hMb [.int (xs (nI (6 * k) + (1 : Int32)).toNatClampNeg)] (mX11_says (l := l) ZC_ok (xs (nI (6 * k) + (1 : Int32)).toNatClampNeg) MC r MC' hc1) rfl pmX11_says tw673 ⟨Nat.le_of_ble_eq_true rfl, Nat.le_of_ble_eq_true rfl⟩ rfl hl.1 (Nat.le_of_ble_eq_true rfl) ⟨(show 82 + 20 * k + 0 ≤ 600000 by omega), (show 9444 + 120 * k + 0 ≤ 7302250 by omega)⟩ rfl dL_law_417 (fun H locs hC hM hS => ?_)
  refine lv_aload_n hx hb dL_law_420 rfl (lv_at hl 2 rfl) ?_
  refine lv_aload_n hx hb dL_law_421 rfl (lv_at hl 0 rfl) ?_
  refine lv_iload_n hx hb dL_law_422 rfl (lv_at hl 3 rfl) ?_
  refine lv_iconst (v := (1 : Int32)) hx hb dL_law_423 (by decide) ?_
  refine lv_iadd hx hb dL_law_424 ?_
  refine va_sld hx hb hX hbl hbA hS hin1 dL_law_425 ?_
  refine lw_cMI hx hb hml hown hts hK hZ hS hC hM hMb [.int (xs (nI (6 * k) + (1 : Int32)).toNatClampNeg)] (mX12_says (l := l) ZT_ok (xs (nI (6 * k) + (1 : Int32)).toNatClampNeg) MM r MM' hc2) rfl pmX12_says tw1480 ⟨Nat.le_of_ble_eq_true rfl, Nat.le_of_ble_eq_true rfl⟩ rfl hl.1 (Nat.le_of_ble_eq_true rfl) ⟨(show 82 + 20 * k + 0 ≤ 600000 by omega), (show 9444 + 120 * k + 0 ≤ 7302250 by omega)⟩ rfl dL_law_426 (fun H locs hC hM hS => ?_)
  refine lv_icmp_eq (tgt := 1594) hx hb dL_law_429 (by decide) (fun _ => ?_) (fun hc => absurd rfl hc)
  refine lv_iinc (v := nI (6 * (k + 1))) (lv' := [(3, .int (nI (6 * (k + 1)))), (0, .ref b), (1, .ref (adC 11 0)), (2, .ref (adM 12 0))]) hx hb dL_law_1594 hl (k := 3) rfl (nI_add (6 * k) 6) (by decide) rfl (fun ls hl => ?_)
  refine lv_goto (tgt := 18) hx hb dL_law_1597 (by decide) ?_
  refine W.widen (k := 82 + 20 * (k + 1)) (n := 9444 + 120 * (k + 1)) (by omega) (by omega) ?_
  exact ih MC' MM' nS nL adC _ _ _ hs2 hC hM hS (lv_sub hl [1, 2, 3, 0] rfl)
set_option maxHeartbeats 4000000 in
set_option maxRecDepth 100000 in
theorem law_case6 {p : Program} {l : Launch} {e : Env} {s : State} {m : MethodId} {below : List Frame} {meth : Method} {c : Code} {D : va_G} {cy : Nat → ClassId} {K : KC} {adM : Nat → Nat → Nat} {b L : Nat} {xs : Nat → Int32} {Sim : Nat → Mem → Mem → Nat → Nat → Prop} (C0 : LwC p l e s m below meth c D cy K adM b L xs) (hs_ofLine : ∀ (k : Nat) (MC MM : Mem) (nS nL : Nat) (a1 : Int32) (a2 : Int32), k < 64 → Sim k MC MM nS nL → ∃ (r : Int32), fX11_ofLine a1 a2 MC = some r ∧ fX12_ofLine a1 a2 MM = some r ∧ Sim (k + 1) MC MM nS nL) (k : Nat) (hk64 : k < 64) (hin : ∀ j : Nat, j < 6 → vp_in (nI (6 * k) + nI j) L) (ih : LwG p l e s m below meth c D cy adM b Sim 18 (k + 1)) : LwG p l e s m below meth c D cy adM b Sim 434 k := by
  obtain ⟨hx, hb, hml, hown, hts, hX, hbl, hK, hZ, hMb⟩ := C0
  intro MC MM nS nL adC H locs ls hs hC hM hS hl
  have hbA : ¬ (fun q : Nat => s.heap.size ≤ q) b := Nat.not_le.mpr hbl
  have hin1 : vp_in (nI (6 * k) + (1 : Int32)) L := hin 1 (by decide)
  have hin2 : vp_in (nI (6 * k) + (2 : Int32)) L := hin 2 (by decide)
  have hin3 : vp_in (nI (6 * k) + (3 : Int32)) L := hin 3 (by decide)
  have hin4 : vp_in (nI (6 * k) + (4 : Int32)) L := hin 4 (by decide)
  have hin5 : vp_in (nI (6 * k) + (5 : Int32)) L := hin 5 (by decide)
  refine lv_aload_n hx hb dL_law_434 rfl (lv_at hl 1 rfl) ?_
  refine lv_aload_n hx hb dL_law_435 rfl (lv_at hl 0 rfl) ?_
  refine lv_iload_n hx hb dL_law_436 rfl (lv_at hl 3 rfl) ?_
  refine lv_iconst (v := (1 : Int32)) hx hb dL_law_437 (by decide) ?_
  refine lv_iadd hx hb dL_law_438 ?_
  refine va_sld hx hb hX hbl hbA hS hin1 dL_law_439 ?_
  refine lv_aload_n hx hb dL_law_440 rfl (lv_at hl 0 rfl) ?_
  refine lv_iload_n hx hb dL_law_441 rfl (lv_at hl 3 rfl) ?_
  refine lv_iconst (v := (2 : Int32)) hx hb dL_law_442 (by decide) ?_
  refine lv_iadd hx hb dL_law_443 ?_
  refine va_sld hx hb hX hbl hbA hS hin2 dL_law_444 ?_
  obtain ⟨r, hc1, hc2, hs2⟩ := hs_ofLine k MC MM nS nL (xs (nI (6 * k) + (1 : Int32)).toNatClampNeg) (xs (nI (6 * k) + (2 : Int32)).toNatClampNeg) hk64 hs
  refine lw_cCI hx hb hml hown hts hK hZ hS hC hM hMb [.int (xs (nI (6 * k) + (1 : Int32)).toNatClampNeg), .int (xs (nI (6 * k) + (2 : Int32)).toNatClampNeg)] (mX11_ofLine (l := l) ZC_ok (xs (nI (6 * k) + (1 : Int32)).toNatClampNeg) (xs (nI (6 * k) + (2 : Int32)).toNatClampNeg) MC r hc1) rfl pmX11_ofLine tw687 ⟨Nat.le_of_ble_eq_true rfl, Nat.le_of_ble_eq_true rfl⟩ rfl hl.1 (Nat.le_of_ble_eq_true rfl) ⟨(show 82 + 20 * k + 0 ≤ 600000 by omega), (show 9444 + 120 * k + 0 ≤ 7302250 by omega)⟩ rfl dL_law_445 (fun H locs hC hM hS => ?_)
  refine lv_aload_n hx hb dL_law_448 rfl (lv_at hl 2 rfl) ?_
  refine lv_aload_n hx hb dL_law_449 rfl (lv_at hl 0 rfl) ?_
  refine lv_iload_n hx hb dL_law_450 rfl (lv_at hl 3 rfl) ?_
  refine lv_iconst (v := (1 : Int32)) hx hb dL_law_451 (by decide) ?_
  refine lv_iadd hx hb dL_law_452 ?_
  refine va_sld hx hb hX hbl hbA hS hin1 dL_law_453 ?_
  refine lv_aload_n hx hb dL_law_454 rfl (lv_at hl 0 rfl) ?_
  refine lv_iload_n hx hb dL_law_455 rfl (lv_at hl 3 rfl) ?_
  refine lv_iconst (v := (2 : Int32)) hx hb dL_law_456 (by decide) ?_
  refine lv_iadd hx hb dL_law_457 ?_
  refine va_sld hx hb hX hbl hbA hS hin2 dL_law_458 ?_
  refine lw_cMI hx hb hml hown hts hK hZ hS hC hM hMb [.int (xs (nI (6 * k) + (1 : Int32)).toNatClampNeg), .int (xs (nI (6 * k) + (2 : Int32)).toNatClampNeg)] (mX12_ofLine (l := l) ZT_ok (xs (nI (6 * k) + (1 : Int32)).toNatClampNeg) (xs (nI (6 * k) + (2 : Int32)).toNatClampNeg) MM r hc2) rfl pmX12_ofLine tw1488 ⟨Nat.le_of_ble_eq_true rfl, Nat.le_of_ble_eq_true rfl⟩ rfl hl.1 (Nat.le_of_ble_eq_true rfl) ⟨(show 82 + 20 * k + 0 ≤ 600000 by omega), (show 9444 + 120 * k + 0 ≤ 7302250 by omega)⟩ rfl dL_law_459 (fun H locs hC hM hS => ?_)
  refine lv_icmp_eq (tgt := 1594) hx hb dL_law_462 (by decide) (fun _ => ?_) (fun hc => absurd rfl hc)
  refine lv_iinc (v := nI (6 * (k + 1))) (lv' := [(3, .int (nI (6 * (k + 1)))), (0, .ref b), (1, .ref (adC 11 0)), (2, .ref (adM 12 0))]) hx hb dL_law_1594 hl (k := 3) rfl (nI_add (6 * k) 6) (by decide) rfl (fun ls hl => ?_)
  refine lv_goto (tgt := 18) hx hb dL_law_1597 (by decide) ?_
  refine W.widen (k := 82 + 20 * (k + 1)) (n := 9444 + 120 * (k + 1)) (by omega) (by omega) ?_
  exact ih MC MM nS nL adC _ _ _ hs2 hC hM hS (lv_sub hl [1, 2, 3, 0] rfl)
set_option maxHeartbeats 4000000 in
set_option maxRecDepth 100000 in
theorem law_case7 {p : Program} {l : Launch} {e : Env} {s : State} {m : MethodId} {below : List Frame} {meth : Method} {c : Code} {D : va_G} {cy : Nat → ClassId} {K : KC} {adM : Nat → Nat → Nat} {b L : Nat} {xs : Nat → Int32} {Sim : Nat → Mem → Mem → Nat → Nat → Prop} (C0 : LwC p l e s m below meth c D cy K adM b L xs) (hs_change : ∀ (k : Nat) (MC MM : Mem) (nS nL : Nat) (a1 : Int32) (a2 : Int32) (a3 : Int32), k < 64 → Sim k MC MM nS nL → ∃ (r : Int32) (MC' : Mem) (MM' : Mem), fX11_change a1 a2 a3 MC = some (r, MC') ∧ fX12_change a1 a2 a3 MM = some (r, MM') ∧ Sim (k + 1) MC' MM' nS nL) (k : Nat) (hk64 : k < 64) (hin : ∀ j : Nat, j < 6 → vp_in (nI (6 * k) + nI j) L) (ih : LwG p l e s m below meth c D cy adM b Sim 18 (k + 1)) : LwG p l e s m below meth c D cy adM b Sim 467 k := by
  obtain ⟨hx, hb, hml, hown, hts, hX, hbl, hK, hZ, hMb⟩ := C0
  intro MC MM nS nL adC H locs ls hs hC hM hS hl
  have hbA : ¬ (fun q : Nat => s.heap.size ≤ q) b := Nat.not_le.mpr hbl
  have hin1 : vp_in (nI (6 * k) + (1 : Int32)) L := hin 1 (by decide)
  have hin2 : vp_in (nI (6 * k) + (2 : Int32)) L := hin 2 (by decide)
  have hin3 : vp_in (nI (6 * k) + (3 : Int32)) L := hin 3 (by decide)
  have hin4 : vp_in (nI (6 * k) + (4 : Int32)) L := hin 4 (by decide)
  have hin5 : vp_in (nI (6 * k) + (5 : Int32)) L := hin 5 (by decide)
  refine lv_aload_n hx hb dL_law_467 rfl (lv_at hl 1 rfl) ?_
  refine lv_aload_n hx hb dL_law_468 rfl (lv_at hl 0 rfl) ?_
  refine lv_iload_n hx hb dL_law_469 rfl (lv_at hl 3 rfl) ?_
  refine lv_iconst (v := (1 : Int32)) hx hb dL_law_470 (by decide) ?_
  refine lv_iadd hx hb dL_law_471 ?_
  refine va_sld hx hb hX hbl hbA hS hin1 dL_law_472 ?_
  refine lv_aload_n hx hb dL_law_473 rfl (lv_at hl 0 rfl) ?_
  refine lv_iload_n hx hb dL_law_474 rfl (lv_at hl 3 rfl) ?_
  refine lv_iconst (v := (2 : Int32)) hx hb dL_law_475 (by decide) ?_
  refine lv_iadd hx hb dL_law_476 ?_
  refine va_sld hx hb hX hbl hbA hS hin2 dL_law_477 ?_
  refine lv_aload_n hx hb dL_law_478 rfl (lv_at hl 0 rfl) ?_
  refine lv_iload_n hx hb dL_law_479 rfl (lv_at hl 3 rfl) ?_
  refine lv_iconst (v := (3 : Int32)) hx hb dL_law_480 (by decide) ?_
  refine lv_iadd hx hb dL_law_481 ?_
  refine va_sld hx hb hX hbl hbA hS hin3 dL_law_482 ?_
  obtain ⟨r, MC', MM', hc1, hc2, hs2⟩ := hs_change k MC MM nS nL (xs (nI (6 * k) + (1 : Int32)).toNatClampNeg) (xs (nI (6 * k) + (2 : Int32)).toNatClampNeg) (xs (nI (6 * k) + (3 : Int32)).toNatClampNeg) hk64 hs
  refine lw_cCI hx hb hml hown hts hK hZ hS hC hM hMb [.int (xs (nI (6 * k) + (1 : Int32)).toNatClampNeg), .int (xs (nI (6 * k) + (2 : Int32)).toNatClampNeg), .int (xs (nI (6 * k) + (3 : Int32)).toNatClampNeg)] (mX11_change (l := l) ZC_ok (xs (nI (6 * k) + (1 : Int32)).toNatClampNeg) (xs (nI (6 * k) + (2 : Int32)).toNatClampNeg) (xs (nI (6 * k) + (3 : Int32)).toNatClampNeg) MC r MC' hc1) rfl pmX11_change tw695 ⟨Nat.le_of_ble_eq_true rfl, Nat.le_of_ble_eq_true rfl⟩ rfl hl.1 (Nat.le_of_ble_eq_true rfl) ⟨(show 82 + 20 * k + 0 ≤ 600000 by omega), (show 9444 + 120 * k + 0 ≤ 7302250 by omega)⟩ rfl dL_law_483 (fun H locs hC hM hS => ?_)
  refine lv_aload_n hx hb dL_law_486 rfl (lv_at hl 2 rfl) ?_
  refine lv_aload_n hx hb dL_law_487 rfl (lv_at hl 0 rfl) ?_
  refine lv_iload_n hx hb dL_law_488 rfl (lv_at hl 3 rfl) ?_
  refine lv_iconst (v := (1 : Int32)) hx hb dL_law_489 (by decide) ?_
  refine lv_iadd hx hb dL_law_490 ?_
  refine va_sld hx hb hX hbl hbA hS hin1 dL_law_491 ?_
  refine lv_aload_n hx hb dL_law_492 rfl (lv_at hl 0 rfl) ?_
  refine lv_iload_n hx hb dL_law_493 rfl (lv_at hl 3 rfl) ?_
  refine lv_iconst (v := (2 : Int32)) hx hb dL_law_494 (by decide) ?_
  refine lv_iadd hx hb dL_law_495 ?_
  refine va_sld hx hb hX hbl hbA hS hin2 dL_law_496 ?_
  refine lv_aload_n hx hb dL_law_497 rfl (lv_at hl 0 rfl) ?_
  refine lv_iload_n hx hb dL_law_498 rfl (lv_at hl 3 rfl) ?_
  refine lv_iconst (v := (3 : Int32)) hx hb dL_law_499 (by decide) ?_
  refine lv_iadd hx hb dL_law_500 ?_
  refine va_sld hx hb hX hbl hbA hS hin3 dL_law_501 ?_
  refine lw_cMI hx hb hml hown hts hK hZ hS hC hM hMb [.int (xs (nI (6 * k) + (1 : Int32)).toNatClampNeg), .int (xs (nI (6 * k) + (2 : Int32)).toNatClampNeg), .int (xs (nI (6 * k) + (3 : Int32)).toNatClampNeg)] (mX12_change (l := l) ZT_ok (xs (nI (6 * k) + (1 : Int32)).toNatClampNeg) (xs (nI (6 * k) + (2 : Int32)).toNatClampNeg) (xs (nI (6 * k) + (3 : Int32)).toNatClampNeg) MM r MM' hc2) rfl pmX12_change tw1508 ⟨Nat.le_of_ble_eq_true rfl, Nat.le_of_ble_eq_true rfl⟩ rfl hl.1 (Nat.le_of_ble_eq_true rfl) ⟨(show 82 + 20 * k + 0 ≤ 600000 by omega), (show 9444 + 120 * k + 0 ≤ 7302250 by omega)⟩ rfl dL_law_502 (fun H locs hC hM hS => ?_)
  refine lv_icmp_eq (tgt := 1594) hx hb dL_law_505 (by decide) (fun _ => ?_) (fun hc => absurd rfl hc)
  refine lv_iinc (v := nI (6 * (k + 1))) (lv' := [(3, .int (nI (6 * (k + 1)))), (0, .ref b), (1, .ref (adC 11 0)), (2, .ref (adM 12 0))]) hx hb dL_law_1594 hl (k := 3) rfl (nI_add (6 * k) 6) (by decide) rfl (fun ls hl => ?_)
  refine lv_goto (tgt := 18) hx hb dL_law_1597 (by decide) ?_
  refine W.widen (k := 82 + 20 * (k + 1)) (n := 9444 + 120 * (k + 1)) (by omega) (by omega) ?_
  exact ih MC' MM' nS nL adC _ _ _ hs2 hC hM hS (lv_sub hl [1, 2, 3, 0] rfl)
set_option maxHeartbeats 4000000 in
set_option maxRecDepth 100000 in
theorem law_case8 {p : Program} {l : Launch} {e : Env} {s : State} {m : MethodId} {below : List Frame} {meth : Method} {c : Code} {D : va_G} {cy : Nat → ClassId} {K : KC} {adM : Nat → Nat → Nat} {b L : Nat} {xs : Nat → Int32} {Sim : Nat → Mem → Mem → Nat → Nat → Prop} (C0 : LwC p l e s m below meth c D cy K adM b L xs) (hs_take : ∀ (k : Nat) (MC MM : Mem) (nS nL : Nat) (a1 : Int32) (a2 : Int32) (a3 : Int32), k < 64 → Sim k MC MM nS nL → ∃ (r : Int32) (MC' : Mem) (MM' : Mem), fX11_take a1 a2 a3 MC = some (r, MC') ∧ fX12_take a1 a2 a3 MM = some (r, MM') ∧ Sim (k + 1) MC' MM' nS nL) (k : Nat) (hk64 : k < 64) (hin : ∀ j : Nat, j < 6 → vp_in (nI (6 * k) + nI j) L) (ih : LwG p l e s m below meth c D cy adM b Sim 18 (k + 1)) : LwG p l e s m below meth c D cy adM b Sim 510 k := by
  obtain ⟨hx, hb, hml, hown, hts, hX, hbl, hK, hZ, hMb⟩ := C0
  intro MC MM nS nL adC H locs ls hs hC hM hS hl
  have hbA : ¬ (fun q : Nat => s.heap.size ≤ q) b := Nat.not_le.mpr hbl
  have hin1 : vp_in (nI (6 * k) + (1 : Int32)) L := hin 1 (by decide)
  have hin2 : vp_in (nI (6 * k) + (2 : Int32)) L := hin 2 (by decide)
  have hin3 : vp_in (nI (6 * k) + (3 : Int32)) L := hin 3 (by decide)
  have hin4 : vp_in (nI (6 * k) + (4 : Int32)) L := hin 4 (by decide)
  have hin5 : vp_in (nI (6 * k) + (5 : Int32)) L := hin 5 (by decide)
  refine lv_aload_n hx hb dL_law_510 rfl (lv_at hl 1 rfl) ?_
  refine lv_aload_n hx hb dL_law_511 rfl (lv_at hl 0 rfl) ?_
  refine lv_iload_n hx hb dL_law_512 rfl (lv_at hl 3 rfl) ?_
  refine lv_iconst (v := (1 : Int32)) hx hb dL_law_513 (by decide) ?_
  refine lv_iadd hx hb dL_law_514 ?_
  refine va_sld hx hb hX hbl hbA hS hin1 dL_law_515 ?_
  refine lv_aload_n hx hb dL_law_516 rfl (lv_at hl 0 rfl) ?_
  refine lv_iload_n hx hb dL_law_517 rfl (lv_at hl 3 rfl) ?_
  refine lv_iconst (v := (2 : Int32)) hx hb dL_law_518 (by decide) ?_
  refine lv_iadd hx hb dL_law_519 ?_
  refine va_sld hx hb hX hbl hbA hS hin2 dL_law_520 ?_
  refine lv_aload_n hx hb dL_law_521 rfl (lv_at hl 0 rfl) ?_
  refine lv_iload_n hx hb dL_law_522 rfl (lv_at hl 3 rfl) ?_
  refine lv_iconst (v := (3 : Int32)) hx hb dL_law_523 (by decide) ?_
  refine lv_iadd hx hb dL_law_524 ?_
  refine va_sld hx hb hX hbl hbA hS hin3 dL_law_525 ?_
  obtain ⟨r, MC', MM', hc1, hc2, hs2⟩ := hs_take k MC MM nS nL (xs (nI (6 * k) + (1 : Int32)).toNatClampNeg) (xs (nI (6 * k) + (2 : Int32)).toNatClampNeg) (xs (nI (6 * k) + (3 : Int32)).toNatClampNeg) hk64 hs
  refine lw_cCI hx hb hml hown hts hK hZ hS hC hM hMb [.int (xs (nI (6 * k) + (1 : Int32)).toNatClampNeg), .int (xs (nI (6 * k) + (2 : Int32)).toNatClampNeg), .int (xs (nI (6 * k) + (3 : Int32)).toNatClampNeg)] (mX11_take (l := l) ZC_ok (xs (nI (6 * k) + (1 : Int32)).toNatClampNeg) (xs (nI (6 * k) + (2 : Int32)).toNatClampNeg) (xs (nI (6 * k) + (3 : Int32)).toNatClampNeg) MC r MC' hc1) rfl pmX11_take tw716 ⟨Nat.le_of_ble_eq_true rfl, Nat.le_of_ble_eq_true rfl⟩ rfl hl.1 (Nat.le_of_ble_eq_true rfl) ⟨(show 82 + 20 * k + 0 ≤ 600000 by omega), (show 9444 + 120 * k + 0 ≤ 7302250 by omega)⟩ rfl dL_law_526 (fun H locs hC hM hS => ?_)
  refine lv_aload_n hx hb dL_law_529 rfl (lv_at hl 2 rfl) ?_
  refine lv_aload_n hx hb dL_law_530 rfl (lv_at hl 0 rfl) ?_
  refine lv_iload_n hx hb dL_law_531 rfl (lv_at hl 3 rfl) ?_
  refine lv_iconst (v := (1 : Int32)) hx hb dL_law_532 (by decide) ?_
  refine lv_iadd hx hb dL_law_533 ?_
  refine va_sld hx hb hX hbl hbA hS hin1 dL_law_534 ?_
  refine lv_aload_n hx hb dL_law_535 rfl (lv_at hl 0 rfl) ?_
  refine lv_iload_n hx hb dL_law_536 rfl (lv_at hl 3 rfl) ?_
  refine lv_iconst (v := (2 : Int32)) hx hb dL_law_537 (by decide) ?_
  refine lv_iadd hx hb dL_law_538 ?_
  refine va_sld hx hb hX hbl hbA hS hin2 dL_law_539 ?_
  refine lv_aload_n hx hb dL_law_540 rfl (lv_at hl 0 rfl) ?_
  refine lv_iload_n hx hb dL_law_541 rfl (lv_at hl 3 rfl) ?_
  refine lv_iconst (v := (3 : Int32)) hx hb dL_law_542 (by decide) ?_
  refine lv_iadd hx hb dL_law_543 ?_
  refine va_sld hx hb hX hbl hbA hS hin3 dL_law_544 ?_
  refine lw_cMI hx hb hml hown hts hK hZ hS hC hM hMb [.int (xs (nI (6 * k) + (1 : Int32)).toNatClampNeg), .int (xs (nI (6 * k) + (2 : Int32)).toNatClampNeg), .int (xs (nI (6 * k) + (3 : Int32)).toNatClampNeg)] (mX12_take (l := l) ZT_ok (xs (nI (6 * k) + (1 : Int32)).toNatClampNeg) (xs (nI (6 * k) + (2 : Int32)).toNatClampNeg) (xs (nI (6 * k) + (3 : Int32)).toNatClampNeg) MM r MM' hc2) rfl pmX12_take tw1516 ⟨Nat.le_of_ble_eq_true rfl, Nat.le_of_ble_eq_true rfl⟩ rfl hl.1 (Nat.le_of_ble_eq_true rfl) ⟨(show 82 + 20 * k + 0 ≤ 600000 by omega), (show 9444 + 120 * k + 0 ≤ 7302250 by omega)⟩ rfl dL_law_545 (fun H locs hC hM hS => ?_)
  refine lv_icmp_eq (tgt := 1594) hx hb dL_law_548 (by decide) (fun _ => ?_) (fun hc => absurd rfl hc)
  refine lv_iinc (v := nI (6 * (k + 1))) (lv' := [(3, .int (nI (6 * (k + 1)))), (0, .ref b), (1, .ref (adC 11 0)), (2, .ref (adM 12 0))]) hx hb dL_law_1594 hl (k := 3) rfl (nI_add (6 * k) 6) (by decide) rfl (fun ls hl => ?_)
  refine lv_goto (tgt := 18) hx hb dL_law_1597 (by decide) ?_
  refine W.widen (k := 82 + 20 * (k + 1)) (n := 9444 + 120 * (k + 1)) (by omega) (by omega) ?_
  exact ih MC' MM' nS nL adC _ _ _ hs2 hC hM hS (lv_sub hl [1, 2, 3, 0] rfl)
set_option maxHeartbeats 4000000 in
set_option maxRecDepth 100000 in
theorem law_case9 {p : Program} {l : Launch} {e : Env} {s : State} {m : MethodId} {below : List Frame} {meth : Method} {c : Code} {D : va_G} {cy : Nat → ClassId} {K : KC} {adM : Nat → Nat → Nat} {b L : Nat} {xs : Nat → Int32} {Sim : Nat → Mem → Mem → Nat → Nat → Prop} (C0 : LwC p l e s m below meth c D cy K adM b L xs) (hs_restore : ∀ (k : Nat) (MC MM : Mem) (nS nL : Nat) (a1 : Int32), k < 64 → Sim k MC MM nS nL → ∃ (r : Int32) (MC' : Mem) (MM' : Mem), fX11_restore a1 MC = some (r, MC') ∧ fX12_restore a1 MM = some (r, MM') ∧ Sim (k + 1) MC' MM' nS nL) (k : Nat) (hk64 : k < 64) (hin : ∀ j : Nat, j < 6 → vp_in (nI (6 * k) + nI j) L) (ih : LwG p l e s m below meth c D cy adM b Sim 18 (k + 1)) : LwG p l e s m below meth c D cy adM b Sim 553 k := by
  obtain ⟨hx, hb, hml, hown, hts, hX, hbl, hK, hZ, hMb⟩ := C0
  intro MC MM nS nL adC H locs ls hs hC hM hS hl
  have hbA : ¬ (fun q : Nat => s.heap.size ≤ q) b := Nat.not_le.mpr hbl
  have hin1 : vp_in (nI (6 * k) + (1 : Int32)) L := hin 1 (by decide)
  have hin2 : vp_in (nI (6 * k) + (2 : Int32)) L := hin 2 (by decide)
  have hin3 : vp_in (nI (6 * k) + (3 : Int32)) L := hin 3 (by decide)
  have hin4 : vp_in (nI (6 * k) + (4 : Int32)) L := hin 4 (by decide)
  have hin5 : vp_in (nI (6 * k) + (5 : Int32)) L := hin 5 (by decide)
  refine lv_aload_n hx hb dL_law_553 rfl (lv_at hl 1 rfl) ?_
  refine lv_aload_n hx hb dL_law_554 rfl (lv_at hl 0 rfl) ?_
  refine lv_iload_n hx hb dL_law_555 rfl (lv_at hl 3 rfl) ?_
  refine lv_iconst (v := (1 : Int32)) hx hb dL_law_556 (by decide) ?_
  refine lv_iadd hx hb dL_law_557 ?_
  refine va_sld hx hb hX hbl hbA hS hin1 dL_law_558 ?_
  obtain ⟨r, MC', MM', hc1, hc2, hs2⟩ := hs_restore k MC MM nS nL (xs (nI (6 * k) + (1 : Int32)).toNatClampNeg) hk64 hs
  refine lw_cCI hx hb hml hown hts hK hZ hS hC hM hMb [.int (xs (nI (6 * k) + (1 : Int32)).toNatClampNeg)] (mX11_restore (l := l) ZC_ok (xs (nI (6 * k) + (1 : Int32)).toNatClampNeg) MC r MC' hc1) rfl pmX11_restore tw720 ⟨Nat.le_of_ble_eq_true rfl, Nat.le_of_ble_eq_true rfl⟩ rfl hl.1 (Nat.le_of_ble_eq_true rfl) ⟨(show 82 + 20 * k + 0 ≤ 600000 by omega), (show 9444 + 120 * k + 0 ≤ 7302250 by omega)⟩ rfl dL_law_559 (fun H locs hC hM hS => ?_)
  refine lv_aload_n hx hb dL_law_562 rfl (lv_at hl 2 rfl) ?_
  refine lv_aload_n hx hb dL_law_563 rfl (lv_at hl 0 rfl) ?_
  refine lv_iload_n hx hb dL_law_564 rfl (lv_at hl 3 rfl) ?_
  refine lv_iconst (v := (1 : Int32)) hx hb dL_law_565 (by decide) ?_
  refine lv_iadd hx hb dL_law_566 ?_
  refine va_sld hx hb hX hbl hbA hS hin1 dL_law_567 ?_
  refine lw_cMI hx hb hml hown hts hK hZ hS hC hM hMb [.int (xs (nI (6 * k) + (1 : Int32)).toNatClampNeg)] (mX12_restore (l := l) ZT_ok (xs (nI (6 * k) + (1 : Int32)).toNatClampNeg) MM r MM' hc2) rfl pmX12_restore tw1520 ⟨Nat.le_of_ble_eq_true rfl, Nat.le_of_ble_eq_true rfl⟩ rfl hl.1 (Nat.le_of_ble_eq_true rfl) ⟨(show 82 + 20 * k + 0 ≤ 600000 by omega), (show 9444 + 120 * k + 0 ≤ 7302250 by omega)⟩ rfl dL_law_568 (fun H locs hC hM hS => ?_)
  refine lv_icmp_eq (tgt := 1594) hx hb dL_law_571 (by decide) (fun _ => ?_) (fun hc => absurd rfl hc)
  refine lv_iinc (v := nI (6 * (k + 1))) (lv' := [(3, .int (nI (6 * (k + 1)))), (0, .ref b), (1, .ref (adC 11 0)), (2, .ref (adM 12 0))]) hx hb dL_law_1594 hl (k := 3) rfl (nI_add (6 * k) 6) (by decide) rfl (fun ls hl => ?_)
  refine lv_goto (tgt := 18) hx hb dL_law_1597 (by decide) ?_
  refine W.widen (k := 82 + 20 * (k + 1)) (n := 9444 + 120 * (k + 1)) (by omega) (by omega) ?_
  exact ih MC' MM' nS nL adC _ _ _ hs2 hC hM hS (lv_sub hl [1, 2, 3, 0] rfl)
set_option maxHeartbeats 4000000 in
set_option maxRecDepth 100000 in
theorem law_case10 {p : Program} {l : Launch} {e : Env} {s : State} {m : MethodId} {below : List Frame} {meth : Method} {c : Code} {D : va_G} {cy : Nat → ClassId} {K : KC} {adM : Nat → Nat → Nat} {b L : Nat} {xs : Nat → Int32} {Sim : Nat → Mem → Mem → Nat → Nat → Prop} (C0 : LwC p l e s m below meth c D cy K adM b L xs) (hs_with : ∀ (k : Nat) (MC MM : Mem) (nS nL : Nat) (a1 : Int32) (a2 : Int32) (a3 : Int32), k < 64 → Sim k MC MM nS nL → ∃ (r : Int32) (MC' : Mem) (MM' : Mem), fX11_with a1 a2 a3 MC = some (r, MC') ∧ fX12_with a1 a2 a3 MM = some (r, MM') ∧ Sim (k + 1) MC' MM' nS nL) (k : Nat) (hk64 : k < 64) (hin : ∀ j : Nat, j < 6 → vp_in (nI (6 * k) + nI j) L) (ih : LwG p l e s m below meth c D cy adM b Sim 18 (k + 1)) : LwG p l e s m below meth c D cy adM b Sim 576 k := by
  obtain ⟨hx, hb, hml, hown, hts, hX, hbl, hK, hZ, hMb⟩ := C0
  intro MC MM nS nL adC H locs ls hs hC hM hS hl
  have hbA : ¬ (fun q : Nat => s.heap.size ≤ q) b := Nat.not_le.mpr hbl
  have hin1 : vp_in (nI (6 * k) + (1 : Int32)) L := hin 1 (by decide)
  have hin2 : vp_in (nI (6 * k) + (2 : Int32)) L := hin 2 (by decide)
  have hin3 : vp_in (nI (6 * k) + (3 : Int32)) L := hin 3 (by decide)
  have hin4 : vp_in (nI (6 * k) + (4 : Int32)) L := hin 4 (by decide)
  have hin5 : vp_in (nI (6 * k) + (5 : Int32)) L := hin 5 (by decide)
  refine lv_aload_n hx hb dL_law_576 rfl (lv_at hl 1 rfl) ?_
  refine lv_aload_n hx hb dL_law_577 rfl (lv_at hl 0 rfl) ?_
  refine lv_iload_n hx hb dL_law_578 rfl (lv_at hl 3 rfl) ?_
  refine lv_iconst (v := (1 : Int32)) hx hb dL_law_579 (by decide) ?_
  refine lv_iadd hx hb dL_law_580 ?_
  refine va_sld hx hb hX hbl hbA hS hin1 dL_law_581 ?_
  refine lv_aload_n hx hb dL_law_582 rfl (lv_at hl 0 rfl) ?_
  refine lv_iload_n hx hb dL_law_583 rfl (lv_at hl 3 rfl) ?_
  refine lv_iconst (v := (2 : Int32)) hx hb dL_law_584 (by decide) ?_
  refine lv_iadd hx hb dL_law_585 ?_
  refine va_sld hx hb hX hbl hbA hS hin2 dL_law_586 ?_
  refine lv_aload_n hx hb dL_law_587 rfl (lv_at hl 0 rfl) ?_
  refine lv_iload_n hx hb dL_law_588 rfl (lv_at hl 3 rfl) ?_
  refine lv_iconst (v := (3 : Int32)) hx hb dL_law_589 (by decide) ?_
  refine lv_iadd hx hb dL_law_590 ?_
  refine va_sld hx hb hX hbl hbA hS hin3 dL_law_591 ?_
  obtain ⟨r, MC', MM', hc1, hc2, hs2⟩ := hs_with k MC MM nS nL (xs (nI (6 * k) + (1 : Int32)).toNatClampNeg) (xs (nI (6 * k) + (2 : Int32)).toNatClampNeg) (xs (nI (6 * k) + (3 : Int32)).toNatClampNeg) hk64 hs
  refine lw_cCI hx hb hml hown hts hK hZ hS hC hM hMb [.int (xs (nI (6 * k) + (1 : Int32)).toNatClampNeg), .int (xs (nI (6 * k) + (2 : Int32)).toNatClampNeg), .int (xs (nI (6 * k) + (3 : Int32)).toNatClampNeg)] (mX11_with (l := l) ZC_ok (xs (nI (6 * k) + (1 : Int32)).toNatClampNeg) (xs (nI (6 * k) + (2 : Int32)).toNatClampNeg) (xs (nI (6 * k) + (3 : Int32)).toNatClampNeg) MC r MC' hc1) rfl pmX11_with tw725 ⟨Nat.le_of_ble_eq_true rfl, Nat.le_of_ble_eq_true rfl⟩ rfl hl.1 (Nat.le_of_ble_eq_true rfl) ⟨(show 82 + 20 * k + 0 ≤ 600000 by omega), (show 9444 + 120 * k + 0 ≤ 7302250 by omega)⟩ rfl dL_law_592 (fun H locs hC hM hS => ?_)
  refine lv_aload_n hx hb dL_law_595 rfl (lv_at hl 2 rfl) ?_
  refine lv_aload_n hx hb dL_law_596 rfl (lv_at hl 0 rfl) ?_
  refine lv_iload_n hx hb dL_law_597 rfl (lv_at hl 3 rfl) ?_
  refine lv_iconst (v := (1 : Int32)) hx hb dL_law_598 (by decide) ?_
  refine lv_iadd hx hb dL_law_599 ?_
  refine va_sld hx hb hX hbl hbA hS hin1 dL_law_600 ?_
  refine lv_aload_n hx hb dL_law_601 rfl (lv_at hl 0 rfl) ?_
  refine lv_iload_n hx hb dL_law_602 rfl (lv_at hl 3 rfl) ?_
  refine lv_iconst (v := (2 : Int32)) hx hb dL_law_603 (by decide) ?_
  refine lv_iadd hx hb dL_law_604 ?_
  refine va_sld hx hb hX hbl hbA hS hin2 dL_law_605 ?_
  refine lv_aload_n hx hb dL_law_606 rfl (lv_at hl 0 rfl) ?_
  refine lv_iload_n hx hb dL_law_607 rfl (lv_at hl 3 rfl) ?_
  refine lv_iconst (v := (3 : Int32)) hx hb dL_law_608 (by decide) ?_
  refine lv_iadd hx hb dL_law_609 ?_
  refine va_sld hx hb hX hbl hbA hS hin3 dL_law_610 ?_
  refine lw_cMI hx hb hml hown hts hK hZ hS hC hM hMb [.int (xs (nI (6 * k) + (1 : Int32)).toNatClampNeg), .int (xs (nI (6 * k) + (2 : Int32)).toNatClampNeg), .int (xs (nI (6 * k) + (3 : Int32)).toNatClampNeg)] (mX12_with (l := l) ZT_ok (xs (nI (6 * k) + (1 : Int32)).toNatClampNeg) (xs (nI (6 * k) + (2 : Int32)).toNatClampNeg) (xs (nI (6 * k) + (3 : Int32)).toNatClampNeg) MM r MM' hc2) rfl pmX12_with tw1524 ⟨Nat.le_of_ble_eq_true rfl, Nat.le_of_ble_eq_true rfl⟩ rfl hl.1 (Nat.le_of_ble_eq_true rfl) ⟨(show 82 + 20 * k + 0 ≤ 600000 by omega), (show 9444 + 120 * k + 0 ≤ 7302250 by omega)⟩ rfl dL_law_611 (fun H locs hC hM hS => ?_)
  refine lv_icmp_eq (tgt := 1594) hx hb dL_law_614 (by decide) (fun _ => ?_) (fun hc => absurd rfl hc)
  refine lv_iinc (v := nI (6 * (k + 1))) (lv' := [(3, .int (nI (6 * (k + 1)))), (0, .ref b), (1, .ref (adC 11 0)), (2, .ref (adM 12 0))]) hx hb dL_law_1594 hl (k := 3) rfl (nI_add (6 * k) 6) (by decide) rfl (fun ls hl => ?_)
  refine lv_goto (tgt := 18) hx hb dL_law_1597 (by decide) ?_
  refine W.widen (k := 82 + 20 * (k + 1)) (n := 9444 + 120 * (k + 1)) (by omega) (by omega) ?_
  exact ih MC' MM' nS nL adC _ _ _ hs2 hC hM hS (lv_sub hl [1, 2, 3, 0] rfl)
set_option maxHeartbeats 4000000 in
set_option maxRecDepth 100000 in
theorem law_case11 {p : Program} {l : Launch} {e : Env} {s : State} {m : MethodId} {below : List Frame} {meth : Method} {c : Code} {D : va_G} {cy : Nat → ClassId} {K : KC} {adM : Nat → Nat → Nat} {b L : Nat} {xs : Nat → Int32} {Sim : Nat → Mem → Mem → Nat → Nat → Prop} (C0 : LwC p l e s m below meth c D cy K adM b L xs) (hs_falls : ∀ (k : Nat) (MC MM : Mem) (nS nL : Nat) (a1 : Int32) (a2 : Int32), k < 64 → Sim k MC MM nS nL → ∃ (r : Int32) (MC' : Mem) (MM' : Mem), fX11_falls a1 a2 MC = some (r, MC') ∧ fX12_falls a1 a2 MM = some (r, MM') ∧ Sim (k + 1) MC' MM' nS nL) (k : Nat) (hk64 : k < 64) (hin : ∀ j : Nat, j < 6 → vp_in (nI (6 * k) + nI j) L) (ih : LwG p l e s m below meth c D cy adM b Sim 18 (k + 1)) : LwG p l e s m below meth c D cy adM b Sim 619 k := by
  obtain ⟨hx, hb, hml, hown, hts, hX, hbl, hK, hZ, hMb⟩ := C0
  intro MC MM nS nL adC H locs ls hs hC hM hS hl
  have hbA : ¬ (fun q : Nat => s.heap.size ≤ q) b := Nat.not_le.mpr hbl
  have hin1 : vp_in (nI (6 * k) + (1 : Int32)) L := hin 1 (by decide)
  have hin2 : vp_in (nI (6 * k) + (2 : Int32)) L := hin 2 (by decide)
  have hin3 : vp_in (nI (6 * k) + (3 : Int32)) L := hin 3 (by decide)
  have hin4 : vp_in (nI (6 * k) + (4 : Int32)) L := hin 4 (by decide)
  have hin5 : vp_in (nI (6 * k) + (5 : Int32)) L := hin 5 (by decide)
  refine lv_aload_n hx hb dL_law_619 rfl (lv_at hl 1 rfl) ?_
  refine lv_aload_n hx hb dL_law_620 rfl (lv_at hl 0 rfl) ?_
  refine lv_iload_n hx hb dL_law_621 rfl (lv_at hl 3 rfl) ?_
  refine lv_iconst (v := (1 : Int32)) hx hb dL_law_622 (by decide) ?_
  refine lv_iadd hx hb dL_law_623 ?_
  refine va_sld hx hb hX hbl hbA hS hin1 dL_law_624 ?_
  refine lv_aload_n hx hb dL_law_625 rfl (lv_at hl 0 rfl) ?_
  refine lv_iload_n hx hb dL_law_626 rfl (lv_at hl 3 rfl) ?_
  refine lv_iconst (v := (2 : Int32)) hx hb dL_law_627 (by decide) ?_
  refine lv_iadd hx hb dL_law_628 ?_
  refine va_sld hx hb hX hbl hbA hS hin2 dL_law_629 ?_
  obtain ⟨r, MC', MM', hc1, hc2, hs2⟩ := hs_falls k MC MM nS nL (xs (nI (6 * k) + (1 : Int32)).toNatClampNeg) (xs (nI (6 * k) + (2 : Int32)).toNatClampNeg) hk64 hs
  refine lw_cCI hx hb hml hown hts hK hZ hS hC hM hMb [.int (xs (nI (6 * k) + (1 : Int32)).toNatClampNeg), .int (xs (nI (6 * k) + (2 : Int32)).toNatClampNeg)] (mX11_falls (l := l) ZC_ok (xs (nI (6 * k) + (1 : Int32)).toNatClampNeg) (xs (nI (6 * k) + (2 : Int32)).toNatClampNeg) MC r MC' hc1) rfl pmX11_falls tw729 ⟨Nat.le_of_ble_eq_true rfl, Nat.le_of_ble_eq_true rfl⟩ rfl hl.1 (Nat.le_of_ble_eq_true rfl) ⟨(show 82 + 20 * k + 0 ≤ 600000 by omega), (show 9444 + 120 * k + 0 ≤ 7302250 by omega)⟩ rfl dL_law_630 (fun H locs hC hM hS => ?_)
  refine lv_aload_n hx hb dL_law_633 rfl (lv_at hl 2 rfl) ?_
  refine lv_aload_n hx hb dL_law_634 rfl (lv_at hl 0 rfl) ?_
  refine lv_iload_n hx hb dL_law_635 rfl (lv_at hl 3 rfl) ?_
  refine lv_iconst (v := (1 : Int32)) hx hb dL_law_636 (by decide) ?_
  refine lv_iadd hx hb dL_law_637 ?_
  refine va_sld hx hb hX hbl hbA hS hin1 dL_law_638 ?_
  refine lv_aload_n hx hb dL_law_639 rfl (lv_at hl 0 rfl) ?_
  refine lv_iload_n hx hb dL_law_640 rfl (lv_at hl 3 rfl) ?_
  refine lv_iconst (v := (2 : Int32)) hx hb dL_law_641 (by decide) ?_
  refine lv_iadd hx hb dL_law_642 ?_
  refine va_sld hx hb hX hbl hbA hS hin2 dL_law_643 ?_
  refine lw_cMI hx hb hml hown hts hK hZ hS hC hM hMb [.int (xs (nI (6 * k) + (1 : Int32)).toNatClampNeg), .int (xs (nI (6 * k) + (2 : Int32)).toNatClampNeg)] (mX12_falls (l := l) ZT_ok (xs (nI (6 * k) + (1 : Int32)).toNatClampNeg) (xs (nI (6 * k) + (2 : Int32)).toNatClampNeg) MM r MM' hc2) rfl pmX12_falls tw1528 ⟨Nat.le_of_ble_eq_true rfl, Nat.le_of_ble_eq_true rfl⟩ rfl hl.1 (Nat.le_of_ble_eq_true rfl) ⟨(show 82 + 20 * k + 0 ≤ 600000 by omega), (show 9444 + 120 * k + 0 ≤ 7302250 by omega)⟩ rfl dL_law_644 (fun H locs hC hM hS => ?_)
  refine lv_icmp_eq (tgt := 1594) hx hb dL_law_647 (by decide) (fun _ => ?_) (fun hc => absurd rfl hc)
  refine lv_iinc (v := nI (6 * (k + 1))) (lv' := [(3, .int (nI (6 * (k + 1)))), (0, .ref b), (1, .ref (adC 11 0)), (2, .ref (adM 12 0))]) hx hb dL_law_1594 hl (k := 3) rfl (nI_add (6 * k) 6) (by decide) rfl (fun ls hl => ?_)
  refine lv_goto (tgt := 18) hx hb dL_law_1597 (by decide) ?_
  refine W.widen (k := 82 + 20 * (k + 1)) (n := 9444 + 120 * (k + 1)) (by omega) (by omega) ?_
  exact ih MC' MM' nS nL adC _ _ _ hs2 hC hM hS (lv_sub hl [1, 2, 3, 0] rfl)
set_option maxHeartbeats 4000000 in
set_option maxRecDepth 100000 in
theorem law_case12 {p : Program} {l : Launch} {e : Env} {s : State} {m : MethodId} {below : List Frame} {meth : Method} {c : Code} {D : va_G} {cy : Nat → ClassId} {K : KC} {adM : Nat → Nat → Nat} {b L : Nat} {xs : Nat → Int32} {Sim : Nat → Mem → Mem → Nat → Nat → Prop} (C0 : LwC p l e s m below meth c D cy K adM b L xs) (hs_turned : ∀ (k : Nat) (MC MM : Mem) (nS nL : Nat) (a1 : Int32) (a2 : Int32), k < 64 → Sim k MC MM nS nL → ∃ (r : Int32) (MC' : Mem) (MM' : Mem), fX11_turned a1 a2 MC = some (r, MC') ∧ fX12_turned a1 a2 MM = some (r, MM') ∧ Sim (k + 1) MC' MM' nS nL) (k : Nat) (hk64 : k < 64) (hin : ∀ j : Nat, j < 6 → vp_in (nI (6 * k) + nI j) L) (ih : LwG p l e s m below meth c D cy adM b Sim 18 (k + 1)) : LwG p l e s m below meth c D cy adM b Sim 652 k := by
  obtain ⟨hx, hb, hml, hown, hts, hX, hbl, hK, hZ, hMb⟩ := C0
  intro MC MM nS nL adC H locs ls hs hC hM hS hl
  have hbA : ¬ (fun q : Nat => s.heap.size ≤ q) b := Nat.not_le.mpr hbl
  have hin1 : vp_in (nI (6 * k) + (1 : Int32)) L := hin 1 (by decide)
  have hin2 : vp_in (nI (6 * k) + (2 : Int32)) L := hin 2 (by decide)
  have hin3 : vp_in (nI (6 * k) + (3 : Int32)) L := hin 3 (by decide)
  have hin4 : vp_in (nI (6 * k) + (4 : Int32)) L := hin 4 (by decide)
  have hin5 : vp_in (nI (6 * k) + (5 : Int32)) L := hin 5 (by decide)
  refine lv_aload_n hx hb dL_law_652 rfl (lv_at hl 1 rfl) ?_
  refine lv_aload_n hx hb dL_law_653 rfl (lv_at hl 0 rfl) ?_
  refine lv_iload_n hx hb dL_law_654 rfl (lv_at hl 3 rfl) ?_
  refine lv_iconst (v := (1 : Int32)) hx hb dL_law_655 (by decide) ?_
  refine lv_iadd hx hb dL_law_656 ?_
  refine va_sld hx hb hX hbl hbA hS hin1 dL_law_657 ?_
  refine lv_aload_n hx hb dL_law_658 rfl (lv_at hl 0 rfl) ?_
  refine lv_iload_n hx hb dL_law_659 rfl (lv_at hl 3 rfl) ?_
  refine lv_iconst (v := (2 : Int32)) hx hb dL_law_660 (by decide) ?_
  refine lv_iadd hx hb dL_law_661 ?_
  refine va_sld hx hb hX hbl hbA hS hin2 dL_law_662 ?_
  obtain ⟨r, MC', MM', hc1, hc2, hs2⟩ := hs_turned k MC MM nS nL (xs (nI (6 * k) + (1 : Int32)).toNatClampNeg) (xs (nI (6 * k) + (2 : Int32)).toNatClampNeg) hk64 hs
  refine lw_cCI hx hb hml hown hts hK hZ hS hC hM hMb [.int (xs (nI (6 * k) + (1 : Int32)).toNatClampNeg), .int (xs (nI (6 * k) + (2 : Int32)).toNatClampNeg)] (mX11_turned (l := l) ZC_ok (xs (nI (6 * k) + (1 : Int32)).toNatClampNeg) (xs (nI (6 * k) + (2 : Int32)).toNatClampNeg) MC r MC' hc1) rfl pmX11_turned tw741 ⟨Nat.le_of_ble_eq_true rfl, Nat.le_of_ble_eq_true rfl⟩ rfl hl.1 (Nat.le_of_ble_eq_true rfl) ⟨(show 82 + 20 * k + 0 ≤ 600000 by omega), (show 9444 + 120 * k + 0 ≤ 7302250 by omega)⟩ rfl dL_law_663 (fun H locs hC hM hS => ?_)
  refine lv_aload_n hx hb dL_law_666 rfl (lv_at hl 2 rfl) ?_
  refine lv_aload_n hx hb dL_law_667 rfl (lv_at hl 0 rfl) ?_
  refine lv_iload_n hx hb dL_law_668 rfl (lv_at hl 3 rfl) ?_
  refine lv_iconst (v := (1 : Int32)) hx hb dL_law_669 (by decide) ?_
  refine lv_iadd hx hb dL_law_670 ?_
  refine va_sld hx hb hX hbl hbA hS hin1 dL_law_671 ?_
  refine lv_aload_n hx hb dL_law_672 rfl (lv_at hl 0 rfl) ?_
  refine lv_iload_n hx hb dL_law_673 rfl (lv_at hl 3 rfl) ?_
  refine lv_iconst (v := (2 : Int32)) hx hb dL_law_674 (by decide) ?_
  refine lv_iadd hx hb dL_law_675 ?_
  refine va_sld hx hb hX hbl hbA hS hin2 dL_law_676 ?_
  refine lw_cMI hx hb hml hown hts hK hZ hS hC hM hMb [.int (xs (nI (6 * k) + (1 : Int32)).toNatClampNeg), .int (xs (nI (6 * k) + (2 : Int32)).toNatClampNeg)] (mX12_turned (l := l) ZT_ok (xs (nI (6 * k) + (1 : Int32)).toNatClampNeg) (xs (nI (6 * k) + (2 : Int32)).toNatClampNeg) MM r MM' hc2) rfl pmX12_turned tw1532 ⟨Nat.le_of_ble_eq_true rfl, Nat.le_of_ble_eq_true rfl⟩ rfl hl.1 (Nat.le_of_ble_eq_true rfl) ⟨(show 82 + 20 * k + 0 ≤ 600000 by omega), (show 9444 + 120 * k + 0 ≤ 7302250 by omega)⟩ rfl dL_law_677 (fun H locs hC hM hS => ?_)
  refine lv_icmp_eq (tgt := 1594) hx hb dL_law_680 (by decide) (fun _ => ?_) (fun hc => absurd rfl hc)
  refine lv_iinc (v := nI (6 * (k + 1))) (lv' := [(3, .int (nI (6 * (k + 1)))), (0, .ref b), (1, .ref (adC 11 0)), (2, .ref (adM 12 0))]) hx hb dL_law_1594 hl (k := 3) rfl (nI_add (6 * k) 6) (by decide) rfl (fun ls hl => ?_)
  refine lv_goto (tgt := 18) hx hb dL_law_1597 (by decide) ?_
  refine W.widen (k := 82 + 20 * (k + 1)) (n := 9444 + 120 * (k + 1)) (by omega) (by omega) ?_
  exact ih MC' MM' nS nL adC _ _ _ hs2 hC hM hS (lv_sub hl [1, 2, 3, 0] rfl)
set_option maxHeartbeats 4000000 in
set_option maxRecDepth 100000 in
theorem law_case13 {p : Program} {l : Launch} {e : Env} {s : State} {m : MethodId} {below : List Frame} {meth : Method} {c : Code} {D : va_G} {cy : Nat → ClassId} {K : KC} {adM : Nat → Nat → Nat} {b L : Nat} {xs : Nat → Int32} {Sim : Nat → Mem → Mem → Nat → Nat → Prop} (C0 : LwC p l e s m below meth c D cy K adM b L xs) (hs_hangs : ∀ (k : Nat) (MC MM : Mem) (nS nL : Nat) (a1 : Int32), k < 64 → Sim k MC MM nS nL → ∃ (r : Int32) (MC' : Mem) (MM' : Mem), fX11_hangs a1 MC = some (r, MC') ∧ fX12_hangs a1 MM = some (r, MM') ∧ Sim (k + 1) MC' MM' nS nL) (k : Nat) (hk64 : k < 64) (hin : ∀ j : Nat, j < 6 → vp_in (nI (6 * k) + nI j) L) (ih : LwG p l e s m below meth c D cy adM b Sim 18 (k + 1)) : LwG p l e s m below meth c D cy adM b Sim 685 k := by
  obtain ⟨hx, hb, hml, hown, hts, hX, hbl, hK, hZ, hMb⟩ := C0
  intro MC MM nS nL adC H locs ls hs hC hM hS hl
  have hbA : ¬ (fun q : Nat => s.heap.size ≤ q) b := Nat.not_le.mpr hbl
  have hin1 : vp_in (nI (6 * k) + (1 : Int32)) L := hin 1 (by decide)
  have hin2 : vp_in (nI (6 * k) + (2 : Int32)) L := hin 2 (by decide)
  have hin3 : vp_in (nI (6 * k) + (3 : Int32)) L := hin 3 (by decide)
  have hin4 : vp_in (nI (6 * k) + (4 : Int32)) L := hin 4 (by decide)
  have hin5 : vp_in (nI (6 * k) + (5 : Int32)) L := hin 5 (by decide)
  refine lv_aload_n hx hb dL_law_685 rfl (lv_at hl 1 rfl) ?_
  refine lv_aload_n hx hb dL_law_686 rfl (lv_at hl 0 rfl) ?_
  refine lv_iload_n hx hb dL_law_687 rfl (lv_at hl 3 rfl) ?_
  refine lv_iconst (v := (1 : Int32)) hx hb dL_law_688 (by decide) ?_
  refine lv_iadd hx hb dL_law_689 ?_
  refine va_sld hx hb hX hbl hbA hS hin1 dL_law_690 ?_
  obtain ⟨r, MC', MM', hc1, hc2, hs2⟩ := hs_hangs k MC MM nS nL (xs (nI (6 * k) + (1 : Int32)).toNatClampNeg) hk64 hs
  refine lw_cCI hx hb hml hown hts hK hZ hS hC hM hMb [.int (xs (nI (6 * k) + (1 : Int32)).toNatClampNeg)] (mX11_hangs (l := l) ZC_ok (xs (nI (6 * k) + (1 : Int32)).toNatClampNeg) MC r MC' hc1) rfl pmX11_hangs tw749 ⟨Nat.le_of_ble_eq_true rfl, Nat.le_of_ble_eq_true rfl⟩ rfl hl.1 (Nat.le_of_ble_eq_true rfl) ⟨(show 82 + 20 * k + 0 ≤ 600000 by omega), (show 9444 + 120 * k + 0 ≤ 7302250 by omega)⟩ rfl dL_law_691 (fun H locs hC hM hS => ?_)
  refine lv_aload_n hx hb dL_law_694 rfl (lv_at hl 2 rfl) ?_
  refine lv_aload_n hx hb dL_law_695 rfl (lv_at hl 0 rfl) ?_
  refine lv_iload_n hx hb dL_law_696 rfl (lv_at hl 3 rfl) ?_
  refine lv_iconst (v := (1 : Int32)) hx hb dL_law_697 (by decide) ?_
  refine lv_iadd hx hb dL_law_698 ?_
  refine va_sld hx hb hX hbl hbA hS hin1 dL_law_699 ?_
  refine lw_cMI hx hb hml hown hts hK hZ hS hC hM hMb [.int (xs (nI (6 * k) + (1 : Int32)).toNatClampNeg)] (mX12_hangs (l := l) ZT_ok (xs (nI (6 * k) + (1 : Int32)).toNatClampNeg) MM r MM' hc2) rfl pmX12_hangs tw1536 ⟨Nat.le_of_ble_eq_true rfl, Nat.le_of_ble_eq_true rfl⟩ rfl hl.1 (Nat.le_of_ble_eq_true rfl) ⟨(show 82 + 20 * k + 0 ≤ 600000 by omega), (show 9444 + 120 * k + 0 ≤ 7302250 by omega)⟩ rfl dL_law_700 (fun H locs hC hM hS => ?_)
  refine lv_icmp_eq (tgt := 1594) hx hb dL_law_703 (by decide) (fun _ => ?_) (fun hc => absurd rfl hc)
  refine lv_iinc (v := nI (6 * (k + 1))) (lv' := [(3, .int (nI (6 * (k + 1)))), (0, .ref b), (1, .ref (adC 11 0)), (2, .ref (adM 12 0))]) hx hb dL_law_1594 hl (k := 3) rfl (nI_add (6 * k) 6) (by decide) rfl (fun ls hl => ?_)
  refine lv_goto (tgt := 18) hx hb dL_law_1597 (by decide) ?_
  refine W.widen (k := 82 + 20 * (k + 1)) (n := 9444 + 120 * (k + 1)) (by omega) (by omega) ?_
  exact ih MC' MM' nS nL adC _ _ _ hs2 hC hM hS (lv_sub hl [1, 2, 3, 0] rfl)
set_option maxHeartbeats 4000000 in
set_option maxRecDepth 100000 in
theorem law_case14 {p : Program} {l : Launch} {e : Env} {s : State} {m : MethodId} {below : List Frame} {meth : Method} {c : Code} {D : va_G} {cy : Nat → ClassId} {K : KC} {adM : Nat → Nat → Nat} {b L : Nat} {xs : Nat → Int32} {Sim : Nat → Mem → Mem → Nat → Nat → Prop} (C0 : LwC p l e s m below meth c D cy K adM b L xs) (hs_hung : ∀ (k : Nat) (MC MM : Mem) (nS nL : Nat) (a1 : Int32), k < 64 → Sim k MC MM nS nL → ∃ (r : Int64) (MC' : Mem) (MM' : Mem), fX11_hung a1 MC = some (r, MC') ∧ fX12_hung a1 MM = some (r, MM') ∧ Sim (k + 1) MC' MM' nS nL) (k : Nat) (hk64 : k < 64) (hin : ∀ j : Nat, j < 6 → vp_in (nI (6 * k) + nI j) L) (ih : LwG p l e s m below meth c D cy adM b Sim 18 (k + 1)) : LwG p l e s m below meth c D cy adM b Sim 708 k := by
  obtain ⟨hx, hb, hml, hown, hts, hX, hbl, hK, hZ, hMb⟩ := C0
  intro MC MM nS nL adC H locs ls hs hC hM hS hl
  have hbA : ¬ (fun q : Nat => s.heap.size ≤ q) b := Nat.not_le.mpr hbl
  have hin1 : vp_in (nI (6 * k) + (1 : Int32)) L := hin 1 (by decide)
  have hin2 : vp_in (nI (6 * k) + (2 : Int32)) L := hin 2 (by decide)
  have hin3 : vp_in (nI (6 * k) + (3 : Int32)) L := hin 3 (by decide)
  have hin4 : vp_in (nI (6 * k) + (4 : Int32)) L := hin 4 (by decide)
  have hin5 : vp_in (nI (6 * k) + (5 : Int32)) L := hin 5 (by decide)
  refine lv_aload_n hx hb dL_law_708 rfl (lv_at hl 1 rfl) ?_
  refine lv_aload_n hx hb dL_law_709 rfl (lv_at hl 0 rfl) ?_
  refine lv_iload_n hx hb dL_law_710 rfl (lv_at hl 3 rfl) ?_
  refine lv_iconst (v := (1 : Int32)) hx hb dL_law_711 (by decide) ?_
  refine lv_iadd hx hb dL_law_712 ?_
  refine va_sld hx hb hX hbl hbA hS hin1 dL_law_713 ?_
  obtain ⟨r, MC', MM', hc1, hc2, hs2⟩ := hs_hung k MC MM nS nL (xs (nI (6 * k) + (1 : Int32)).toNatClampNeg) hk64 hs
  refine lw_cCL hx hb hml hown hts hK hZ hS hC hM hMb [.int (xs (nI (6 * k) + (1 : Int32)).toNatClampNeg)] (mX11_hung (l := l) ZC_ok (xs (nI (6 * k) + (1 : Int32)).toNatClampNeg) MC r MC' hc1) rfl pmX11_hung tw772 ⟨Nat.le_of_ble_eq_true rfl, Nat.le_of_ble_eq_true rfl⟩ rfl hl.1 (Nat.le_of_ble_eq_true rfl) ⟨(show 82 + 20 * k + 0 ≤ 600000 by omega), (show 9444 + 120 * k + 0 ≤ 7302250 by omega)⟩ rfl dL_law_714 (fun H locs hC hM hS => ?_)
  refine lv_aload_n hx hb dL_law_717 rfl (lv_at hl 2 rfl) ?_
  refine lv_aload_n hx hb dL_law_718 rfl (lv_at hl 0 rfl) ?_
  refine lv_iload_n hx hb dL_law_719 rfl (lv_at hl 3 rfl) ?_
  refine lv_iconst (v := (1 : Int32)) hx hb dL_law_720 (by decide) ?_
  refine lv_iadd hx hb dL_law_721 ?_
  refine va_sld hx hb hX hbl hbA hS hin1 dL_law_722 ?_
  refine lw_cML hx hb hml hown hts hK hZ hS hC hM hMb [.int (xs (nI (6 * k) + (1 : Int32)).toNatClampNeg)] (mX12_hung (l := l) ZT_ok (xs (nI (6 * k) + (1 : Int32)).toNatClampNeg) MM r MM' hc2) rfl pmX12_hung tw1549 ⟨Nat.le_of_ble_eq_true rfl, Nat.le_of_ble_eq_true rfl⟩ rfl hl.1 (Nat.le_of_ble_eq_true rfl) ⟨(show 82 + 20 * k + 0 ≤ 600000 by omega), (show 9444 + 120 * k + 0 ≤ 7302250 by omega)⟩ rfl dL_law_723 (fun H locs hC hM hS => ?_)
  refine W.lcmp hx hb dL_law_726 ?_
  refine lv_if_eq (tgt := 1594) hx hb dL_law_727 (by decide) (fun _ => ?_) (fun hc => absurd (by simp [lg_cmp]) hc)
  refine lv_iinc (v := nI (6 * (k + 1))) (lv' := [(3, .int (nI (6 * (k + 1)))), (0, .ref b), (1, .ref (adC 11 0)), (2, .ref (adM 12 0))]) hx hb dL_law_1594 hl (k := 3) rfl (nI_add (6 * k) 6) (by decide) rfl (fun ls hl => ?_)
  refine lv_goto (tgt := 18) hx hb dL_law_1597 (by decide) ?_
  refine W.widen (k := 82 + 20 * (k + 1)) (n := 9444 + 120 * (k + 1)) (by omega) (by omega) ?_
  exact ih MC' MM' nS nL adC _ _ _ hs2 hC hM hS (lv_sub hl [1, 2, 3, 0] rfl)
set_option maxHeartbeats 4000000 in
set_option maxRecDepth 100000 in
theorem law_case15 {p : Program} {l : Launch} {e : Env} {s : State} {m : MethodId} {below : List Frame} {meth : Method} {c : Code} {D : va_G} {cy : Nat → ClassId} {K : KC} {adM : Nat → Nat → Nat} {b L : Nat} {xs : Nat → Int32} {Sim : Nat → Mem → Mem → Nat → Nat → Prop} (C0 : LwC p l e s m below meth c D cy K adM b L xs) (hs_seed : ∀ (k : Nat) (MC MM : Mem) (nS nL : Nat) (a1 : Int32), k < 64 → Sim k MC MM nS nL → ∃ (r : Int32) (MC' : Mem) (MM' : Mem), fX11_seed a1 MC = some (r, MC') ∧ fX12_seed a1 MM = some (r, MM') ∧ Sim (k + 1) MC' MM' nS nL) (k : Nat) (hk64 : k < 64) (hin : ∀ j : Nat, j < 6 → vp_in (nI (6 * k) + nI j) L) (ih : LwG p l e s m below meth c D cy adM b Sim 18 (k + 1)) : LwG p l e s m below meth c D cy adM b Sim 732 k := by
  obtain ⟨hx, hb, hml, hown, hts, hX, hbl, hK, hZ, hMb⟩ := C0
  intro MC MM nS nL adC H locs ls hs hC hM hS hl
  have hbA : ¬ (fun q : Nat => s.heap.size ≤ q) b := Nat.not_le.mpr hbl
  have hin1 : vp_in (nI (6 * k) + (1 : Int32)) L := hin 1 (by decide)
  have hin2 : vp_in (nI (6 * k) + (2 : Int32)) L := hin 2 (by decide)
  have hin3 : vp_in (nI (6 * k) + (3 : Int32)) L := hin 3 (by decide)
  have hin4 : vp_in (nI (6 * k) + (4 : Int32)) L := hin 4 (by decide)
  have hin5 : vp_in (nI (6 * k) + (5 : Int32)) L := hin 5 (by decide)
  refine lv_aload_n hx hb dL_law_732 rfl (lv_at hl 1 rfl) ?_
  refine lv_aload_n hx hb dL_law_733 rfl (lv_at hl 0 rfl) ?_
  refine lv_iload_n hx hb dL_law_734 rfl (lv_at hl 3 rfl) ?_
  refine lv_iconst (v := (1 : Int32)) hx hb dL_law_735 (by decide) ?_
  refine lv_iadd hx hb dL_law_736 ?_
  refine va_sld hx hb hX hbl hbA hS hin1 dL_law_737 ?_
  obtain ⟨r, MC', MM', hc1, hc2, hs2⟩ := hs_seed k MC MM nS nL (xs (nI (6 * k) + (1 : Int32)).toNatClampNeg) hk64 hs
  refine lw_cCI hx hb hml hown hts hK hZ hS hC hM hMb [.int (xs (nI (6 * k) + (1 : Int32)).toNatClampNeg)] (mX11_seed (l := l) ZC_ok (xs (nI (6 * k) + (1 : Int32)).toNatClampNeg) MC r MC' hc1) rfl pmX11_seed tw777 ⟨Nat.le_of_ble_eq_true rfl, Nat.le_of_ble_eq_true rfl⟩ rfl hl.1 (Nat.le_of_ble_eq_true rfl) ⟨(show 82 + 20 * k + 0 ≤ 600000 by omega), (show 9444 + 120 * k + 0 ≤ 7302250 by omega)⟩ rfl dL_law_738 (fun H locs hC hM hS => ?_)
  refine lv_aload_n hx hb dL_law_741 rfl (lv_at hl 2 rfl) ?_
  refine lv_aload_n hx hb dL_law_742 rfl (lv_at hl 0 rfl) ?_
  refine lv_iload_n hx hb dL_law_743 rfl (lv_at hl 3 rfl) ?_
  refine lv_iconst (v := (1 : Int32)) hx hb dL_law_744 (by decide) ?_
  refine lv_iadd hx hb dL_law_745 ?_
  refine va_sld hx hb hX hbl hbA hS hin1 dL_law_746 ?_
  refine lw_cMI hx hb hml hown hts hK hZ hS hC hM hMb [.int (xs (nI (6 * k) + (1 : Int32)).toNatClampNeg)] (mX12_seed (l := l) ZT_ok (xs (nI (6 * k) + (1 : Int32)).toNatClampNeg) MM r MM' hc2) rfl pmX12_seed tw1647 ⟨Nat.le_of_ble_eq_true rfl, Nat.le_of_ble_eq_true rfl⟩ rfl hl.1 (Nat.le_of_ble_eq_true rfl) ⟨(show 82 + 20 * k + 0 ≤ 600000 by omega), (show 9444 + 120 * k + 0 ≤ 7302250 by omega)⟩ rfl dL_law_747 (fun H locs hC hM hS => ?_)
  refine lv_icmp_eq (tgt := 1594) hx hb dL_law_750 (by decide) (fun _ => ?_) (fun hc => absurd rfl hc)
  refine lv_iinc (v := nI (6 * (k + 1))) (lv' := [(3, .int (nI (6 * (k + 1)))), (0, .ref b), (1, .ref (adC 11 0)), (2, .ref (adM 12 0))]) hx hb dL_law_1594 hl (k := 3) rfl (nI_add (6 * k) 6) (by decide) rfl (fun ls hl => ?_)
  refine lv_goto (tgt := 18) hx hb dL_law_1597 (by decide) ?_
  refine W.widen (k := 82 + 20 * (k + 1)) (n := 9444 + 120 * (k + 1)) (by omega) (by omega) ?_
  exact ih MC' MM' nS nL adC _ _ _ hs2 hC hM hS (lv_sub hl [1, 2, 3, 0] rfl)
set_option maxHeartbeats 4000000 in
set_option maxRecDepth 100000 in
theorem law_case16 {p : Program} {l : Launch} {e : Env} {s : State} {m : MethodId} {below : List Frame} {meth : Method} {c : Code} {D : va_G} {cy : Nat → ClassId} {K : KC} {adM : Nat → Nat → Nat} {b L : Nat} {xs : Nat → Int32} {Sim : Nat → Mem → Mem → Nat → Nat → Prop} (C0 : LwC p l e s m below meth c D cy K adM b L xs) (hs_months : ∀ (k : Nat) (MC MM : Mem) (nS nL : Nat) (a1 : Int32), k < 64 → Sim k MC MM nS nL → ∃ (r : Int32) (MC' : Mem) (MM' : Mem), fX11_months a1 MC = some (r, MC') ∧ fX12_months a1 MM = some (r, MM') ∧ Sim (k + 1) MC' MM' nS nL) (k : Nat) (hk64 : k < 64) (hin : ∀ j : Nat, j < 6 → vp_in (nI (6 * k) + nI j) L) (ih : LwG p l e s m below meth c D cy adM b Sim 18 (k + 1)) : LwG p l e s m below meth c D cy adM b Sim 755 k := by
  obtain ⟨hx, hb, hml, hown, hts, hX, hbl, hK, hZ, hMb⟩ := C0
  intro MC MM nS nL adC H locs ls hs hC hM hS hl
  have hbA : ¬ (fun q : Nat => s.heap.size ≤ q) b := Nat.not_le.mpr hbl
  have hin1 : vp_in (nI (6 * k) + (1 : Int32)) L := hin 1 (by decide)
  have hin2 : vp_in (nI (6 * k) + (2 : Int32)) L := hin 2 (by decide)
  have hin3 : vp_in (nI (6 * k) + (3 : Int32)) L := hin 3 (by decide)
  have hin4 : vp_in (nI (6 * k) + (4 : Int32)) L := hin 4 (by decide)
  have hin5 : vp_in (nI (6 * k) + (5 : Int32)) L := hin 5 (by decide)
  refine lv_aload_n hx hb dL_law_755 rfl (lv_at hl 1 rfl) ?_
  refine lv_aload_n hx hb dL_law_756 rfl (lv_at hl 0 rfl) ?_
  refine lv_iload_n hx hb dL_law_757 rfl (lv_at hl 3 rfl) ?_
  refine lv_iconst (v := (1 : Int32)) hx hb dL_law_758 (by decide) ?_
  refine lv_iadd hx hb dL_law_759 ?_
  refine va_sld hx hb hX hbl hbA hS hin1 dL_law_760 ?_
  obtain ⟨r, MC', MM', hc1, hc2, hs2⟩ := hs_months k MC MM nS nL (xs (nI (6 * k) + (1 : Int32)).toNatClampNeg) hk64 hs
  refine lw_cCI hx hb hml hown hts hK hZ hS hC hM hMb [.int (xs (nI (6 * k) + (1 : Int32)).toNatClampNeg)] (mX11_months (l := l) ZC_ok (xs (nI (6 * k) + (1 : Int32)).toNatClampNeg) MC r MC' hc1) rfl pmX11_months tw781 ⟨Nat.le_of_ble_eq_true rfl, Nat.le_of_ble_eq_true rfl⟩ rfl hl.1 (Nat.le_of_ble_eq_true rfl) ⟨(show 82 + 20 * k + 0 ≤ 600000 by omega), (show 9444 + 120 * k + 0 ≤ 7302250 by omega)⟩ rfl dL_law_761 (fun H locs hC hM hS => ?_)
  refine lv_aload_n hx hb dL_law_764 rfl (lv_at hl 2 rfl) ?_
  refine lv_aload_n hx hb dL_law_765 rfl (lv_at hl 0 rfl) ?_
  refine lv_iload_n hx hb dL_law_766 rfl (lv_at hl 3 rfl) ?_
  refine lv_iconst (v := (1 : Int32)) hx hb dL_law_767 (by decide) ?_
  refine lv_iadd hx hb dL_law_768 ?_
  refine va_sld hx hb hX hbl hbA hS hin1 dL_law_769 ?_
  refine lw_cMI hx hb hml hown hts hK hZ hS hC hM hMb [.int (xs (nI (6 * k) + (1 : Int32)).toNatClampNeg)] (mX12_months (l := l) ZT_ok (xs (nI (6 * k) + (1 : Int32)).toNatClampNeg) MM r MM' hc2) rfl pmX12_months tw1632 ⟨Nat.le_of_ble_eq_true rfl, Nat.le_of_ble_eq_true rfl⟩ rfl hl.1 (Nat.le_of_ble_eq_true rfl) ⟨(show 82 + 20 * k + 0 ≤ 600000 by omega), (show 9444 + 120 * k + 0 ≤ 7302250 by omega)⟩ rfl dL_law_770 (fun H locs hC hM hS => ?_)
  refine lv_icmp_eq (tgt := 1594) hx hb dL_law_773 (by decide) (fun _ => ?_) (fun hc => absurd rfl hc)
  refine lv_iinc (v := nI (6 * (k + 1))) (lv' := [(3, .int (nI (6 * (k + 1)))), (0, .ref b), (1, .ref (adC 11 0)), (2, .ref (adM 12 0))]) hx hb dL_law_1594 hl (k := 3) rfl (nI_add (6 * k) 6) (by decide) rfl (fun ls hl => ?_)
  refine lv_goto (tgt := 18) hx hb dL_law_1597 (by decide) ?_
  refine W.widen (k := 82 + 20 * (k + 1)) (n := 9444 + 120 * (k + 1)) (by omega) (by omega) ?_
  exact ih MC' MM' nS nL adC _ _ _ hs2 hC hM hS (lv_sub hl [1, 2, 3, 0] rfl)
set_option maxHeartbeats 4000000 in
set_option maxRecDepth 100000 in
theorem law_case17 {p : Program} {l : Launch} {e : Env} {s : State} {m : MethodId} {below : List Frame} {meth : Method} {c : Code} {D : va_G} {cy : Nat → ClassId} {K : KC} {adM : Nat → Nat → Nat} {b L : Nat} {xs : Nat → Int32} {Sim : Nat → Mem → Mem → Nat → Nat → Prop} (C0 : LwC p l e s m below meth c D cy K adM b L xs) (hs_feed : ∀ (k : Nat) (MC MM : Mem) (nS nL : Nat) (a1 : Int32) (a2 : Int32), k < 64 → Sim k MC MM nS nL → ∃ (r : Int32) (MC' : Mem) (MM' : Mem), fX11_feed a1 a2 MC = some (r, MC') ∧ fX12_feed a1 a2 MM = some (r, MM') ∧ Sim (k + 1) MC' MM' nS nL) (k : Nat) (hk64 : k < 64) (hin : ∀ j : Nat, j < 6 → vp_in (nI (6 * k) + nI j) L) (ih : LwG p l e s m below meth c D cy adM b Sim 18 (k + 1)) : LwG p l e s m below meth c D cy adM b Sim 778 k := by
  obtain ⟨hx, hb, hml, hown, hts, hX, hbl, hK, hZ, hMb⟩ := C0
  intro MC MM nS nL adC H locs ls hs hC hM hS hl
  have hbA : ¬ (fun q : Nat => s.heap.size ≤ q) b := Nat.not_le.mpr hbl
  have hin1 : vp_in (nI (6 * k) + (1 : Int32)) L := hin 1 (by decide)
  have hin2 : vp_in (nI (6 * k) + (2 : Int32)) L := hin 2 (by decide)
  have hin3 : vp_in (nI (6 * k) + (3 : Int32)) L := hin 3 (by decide)
  have hin4 : vp_in (nI (6 * k) + (4 : Int32)) L := hin 4 (by decide)
  have hin5 : vp_in (nI (6 * k) + (5 : Int32)) L := hin 5 (by decide)
  refine lv_aload_n hx hb dL_law_778 rfl (lv_at hl 1 rfl) ?_
  refine lv_aload_n hx hb dL_law_779 rfl (lv_at hl 0 rfl) ?_
  refine lv_iload_n hx hb dL_law_780 rfl (lv_at hl 3 rfl) ?_
  refine lv_iconst (v := (1 : Int32)) hx hb dL_law_781 (by decide) ?_
  refine lv_iadd hx hb dL_law_782 ?_
  refine va_sld hx hb hX hbl hbA hS hin1 dL_law_783 ?_
  refine lv_aload_n hx hb dL_law_784 rfl (lv_at hl 0 rfl) ?_
  refine lv_iload_n hx hb dL_law_785 rfl (lv_at hl 3 rfl) ?_
  refine lv_iconst (v := (2 : Int32)) hx hb dL_law_786 (by decide) ?_
  refine lv_iadd hx hb dL_law_787 ?_
  refine va_sld hx hb hX hbl hbA hS hin2 dL_law_788 ?_
  obtain ⟨r, MC', MM', hc1, hc2, hs2⟩ := hs_feed k MC MM nS nL (xs (nI (6 * k) + (1 : Int32)).toNatClampNeg) (xs (nI (6 * k) + (2 : Int32)).toNatClampNeg) hk64 hs
  refine lw_cCI hx hb hml hown hts hK hZ hS hC hM hMb [.int (xs (nI (6 * k) + (1 : Int32)).toNatClampNeg), .int (xs (nI (6 * k) + (2 : Int32)).toNatClampNeg)] (mX11_feed (l := l) ZC_ok (xs (nI (6 * k) + (1 : Int32)).toNatClampNeg) (xs (nI (6 * k) + (2 : Int32)).toNatClampNeg) MC r MC' hc1) rfl pmX11_feed tw918 ⟨Nat.le_of_ble_eq_true rfl, Nat.le_of_ble_eq_true rfl⟩ rfl hl.1 (Nat.le_of_ble_eq_true rfl) ⟨(show 82 + 20 * k + 0 ≤ 600000 by omega), (show 9444 + 120 * k + 0 ≤ 7302250 by omega)⟩ rfl dL_law_789 (fun H locs hC hM hS => ?_)
  refine lv_aload_n hx hb dL_law_792 rfl (lv_at hl 2 rfl) ?_
  refine lv_aload_n hx hb dL_law_793 rfl (lv_at hl 0 rfl) ?_
  refine lv_iload_n hx hb dL_law_794 rfl (lv_at hl 3 rfl) ?_
  refine lv_iconst (v := (1 : Int32)) hx hb dL_law_795 (by decide) ?_
  refine lv_iadd hx hb dL_law_796 ?_
  refine va_sld hx hb hX hbl hbA hS hin1 dL_law_797 ?_
  refine lv_aload_n hx hb dL_law_798 rfl (lv_at hl 0 rfl) ?_
  refine lv_iload_n hx hb dL_law_799 rfl (lv_at hl 3 rfl) ?_
  refine lv_iconst (v := (2 : Int32)) hx hb dL_law_800 (by decide) ?_
  refine lv_iadd hx hb dL_law_801 ?_
  refine va_sld hx hb hX hbl hbA hS hin2 dL_law_802 ?_
  refine lw_cMI hx hb hml hown hts hK hZ hS hC hM hMb [.int (xs (nI (6 * k) + (1 : Int32)).toNatClampNeg), .int (xs (nI (6 * k) + (2 : Int32)).toNatClampNeg)] (mX12_feed (l := l) ZT_ok (xs (nI (6 * k) + (1 : Int32)).toNatClampNeg) (xs (nI (6 * k) + (2 : Int32)).toNatClampNeg) MM r MM' hc2) rfl pmX12_feed tw1554 ⟨Nat.le_of_ble_eq_true rfl, Nat.le_of_ble_eq_true rfl⟩ rfl hl.1 (Nat.le_of_ble_eq_true rfl) ⟨(show 82 + 20 * k + 0 ≤ 600000 by omega), (show 9444 + 120 * k + 0 ≤ 7302250 by omega)⟩ rfl dL_law_803 (fun H locs hC hM hS => ?_)
  refine lv_icmp_eq (tgt := 1594) hx hb dL_law_806 (by decide) (fun _ => ?_) (fun hc => absurd rfl hc)
  refine lv_iinc (v := nI (6 * (k + 1))) (lv' := [(3, .int (nI (6 * (k + 1)))), (0, .ref b), (1, .ref (adC 11 0)), (2, .ref (adM 12 0))]) hx hb dL_law_1594 hl (k := 3) rfl (nI_add (6 * k) 6) (by decide) rfl (fun ls hl => ?_)
  refine lv_goto (tgt := 18) hx hb dL_law_1597 (by decide) ?_
  refine W.widen (k := 82 + 20 * (k + 1)) (n := 9444 + 120 * (k + 1)) (by omega) (by omega) ?_
  exact ih MC' MM' nS nL adC _ _ _ hs2 hC hM hS (lv_sub hl [1, 2, 3, 0] rfl)
set_option maxHeartbeats 4000000 in
set_option maxRecDepth 100000 in
theorem law_case18 {p : Program} {l : Launch} {e : Env} {s : State} {m : MethodId} {below : List Frame} {meth : Method} {c : Code} {D : va_G} {cy : Nat → ClassId} {K : KC} {adM : Nat → Nat → Nat} {b L : Nat} {xs : Nat → Int32} {Sim : Nat → Mem → Mem → Nat → Nat → Prop} (C0 : LwC p l e s m below meth c D cy K adM b L xs) (hs_text : ∀ (k : Nat) (MC MM : Mem) (nS nL : Nat) (a1 : Int32), k < 64 → Sim k MC MM nS nL → ∃ (r : Int32) (MC' : Mem) (MM' : Mem), fX11_text a1 MC = some (r, MC') ∧ fX12_text a1 MM = some (r, MM') ∧ Sim (k + 1) MC' MM' nS nL) (k : Nat) (hk64 : k < 64) (hin : ∀ j : Nat, j < 6 → vp_in (nI (6 * k) + nI j) L) (ih : LwG p l e s m below meth c D cy adM b Sim 18 (k + 1)) : LwG p l e s m below meth c D cy adM b Sim 811 k := by
  obtain ⟨hx, hb, hml, hown, hts, hX, hbl, hK, hZ, hMb⟩ := C0
  intro MC MM nS nL adC H locs ls hs hC hM hS hl
  have hbA : ¬ (fun q : Nat => s.heap.size ≤ q) b := Nat.not_le.mpr hbl
  have hin1 : vp_in (nI (6 * k) + (1 : Int32)) L := hin 1 (by decide)
  have hin2 : vp_in (nI (6 * k) + (2 : Int32)) L := hin 2 (by decide)
  have hin3 : vp_in (nI (6 * k) + (3 : Int32)) L := hin 3 (by decide)
  have hin4 : vp_in (nI (6 * k) + (4 : Int32)) L := hin 4 (by decide)
  have hin5 : vp_in (nI (6 * k) + (5 : Int32)) L := hin 5 (by decide)
  refine lv_aload_n hx hb dL_law_811 rfl (lv_at hl 1 rfl) ?_
  refine lv_aload_n hx hb dL_law_812 rfl (lv_at hl 0 rfl) ?_
  refine lv_iload_n hx hb dL_law_813 rfl (lv_at hl 3 rfl) ?_
  refine lv_iconst (v := (1 : Int32)) hx hb dL_law_814 (by decide) ?_
  refine lv_iadd hx hb dL_law_815 ?_
  refine va_sld hx hb hX hbl hbA hS hin1 dL_law_816 ?_
  obtain ⟨r, MC', MM', hc1, hc2, hs2⟩ := hs_text k MC MM nS nL (xs (nI (6 * k) + (1 : Int32)).toNatClampNeg) hk64 hs
  refine lw_cCI hx hb hml hown hts hK hZ hS hC hM hMb [.int (xs (nI (6 * k) + (1 : Int32)).toNatClampNeg)] (mX11_text (l := l) ZC_ok (xs (nI (6 * k) + (1 : Int32)).toNatClampNeg) MC r MC' hc1) rfl pmX11_text tw926 ⟨Nat.le_of_ble_eq_true rfl, Nat.le_of_ble_eq_true rfl⟩ rfl hl.1 (Nat.le_of_ble_eq_true rfl) ⟨(show 82 + 20 * k + 0 ≤ 600000 by omega), (show 9444 + 120 * k + 0 ≤ 7302250 by omega)⟩ rfl dL_law_817 (fun H locs hC hM hS => ?_)
  refine lv_aload_n hx hb dL_law_820 rfl (lv_at hl 2 rfl) ?_
  refine lv_aload_n hx hb dL_law_821 rfl (lv_at hl 0 rfl) ?_
  refine lv_iload_n hx hb dL_law_822 rfl (lv_at hl 3 rfl) ?_
  refine lv_iconst (v := (1 : Int32)) hx hb dL_law_823 (by decide) ?_
  refine lv_iadd hx hb dL_law_824 ?_
  refine va_sld hx hb hX hbl hbA hS hin1 dL_law_825 ?_
  refine lw_cMI hx hb hml hown hts hK hZ hS hC hM hMb [.int (xs (nI (6 * k) + (1 : Int32)).toNatClampNeg)] (mX12_text (l := l) ZT_ok (xs (nI (6 * k) + (1 : Int32)).toNatClampNeg) MM r MM' hc2) rfl pmX12_text tw1558 ⟨Nat.le_of_ble_eq_true rfl, Nat.le_of_ble_eq_true rfl⟩ rfl hl.1 (Nat.le_of_ble_eq_true rfl) ⟨(show 82 + 20 * k + 0 ≤ 600000 by omega), (show 9444 + 120 * k + 0 ≤ 7302250 by omega)⟩ rfl dL_law_826 (fun H locs hC hM hS => ?_)
  refine lv_icmp_eq (tgt := 1594) hx hb dL_law_829 (by decide) (fun _ => ?_) (fun hc => absurd rfl hc)
  refine lv_iinc (v := nI (6 * (k + 1))) (lv' := [(3, .int (nI (6 * (k + 1)))), (0, .ref b), (1, .ref (adC 11 0)), (2, .ref (adM 12 0))]) hx hb dL_law_1594 hl (k := 3) rfl (nI_add (6 * k) 6) (by decide) rfl (fun ls hl => ?_)
  refine lv_goto (tgt := 18) hx hb dL_law_1597 (by decide) ?_
  refine W.widen (k := 82 + 20 * (k + 1)) (n := 9444 + 120 * (k + 1)) (by omega) (by omega) ?_
  exact ih MC' MM' nS nL adC _ _ _ hs2 hC hM hS (lv_sub hl [1, 2, 3, 0] rfl)
set_option maxHeartbeats 4000000 in
set_option maxRecDepth 100000 in
theorem law_case19 {p : Program} {l : Launch} {e : Env} {s : State} {m : MethodId} {below : List Frame} {meth : Method} {c : Code} {D : va_G} {cy : Nat → ClassId} {K : KC} {adM : Nat → Nat → Nat} {b L : Nat} {xs : Nat → Int32} {Sim : Nat → Mem → Mem → Nat → Nat → Prop} (C0 : LwC p l e s m below meth c D cy K adM b L xs) (hs_odds : ∀ (k : Nat) (MC MM : Mem) (nS nL : Nat) (a1 : Int32) (a2 : Int32), k < 64 → Sim k MC MM nS nL → ∃ (r : Int32) (MC' : Mem) (MM' : Mem), fX11_odds a1 a2 MC = some (r, MC') ∧ fX12_odds a1 a2 MM = some (r, MM') ∧ Sim (k + 1) MC' MM' nS nL) (k : Nat) (hk64 : k < 64) (hin : ∀ j : Nat, j < 6 → vp_in (nI (6 * k) + nI j) L) (ih : LwG p l e s m below meth c D cy adM b Sim 18 (k + 1)) : LwG p l e s m below meth c D cy adM b Sim 834 k := by
  obtain ⟨hx, hb, hml, hown, hts, hX, hbl, hK, hZ, hMb⟩ := C0
  intro MC MM nS nL adC H locs ls hs hC hM hS hl
  have hbA : ¬ (fun q : Nat => s.heap.size ≤ q) b := Nat.not_le.mpr hbl
  have hin1 : vp_in (nI (6 * k) + (1 : Int32)) L := hin 1 (by decide)
  have hin2 : vp_in (nI (6 * k) + (2 : Int32)) L := hin 2 (by decide)
  have hin3 : vp_in (nI (6 * k) + (3 : Int32)) L := hin 3 (by decide)
  have hin4 : vp_in (nI (6 * k) + (4 : Int32)) L := hin 4 (by decide)
  have hin5 : vp_in (nI (6 * k) + (5 : Int32)) L := hin 5 (by decide)
  refine lv_aload_n hx hb dL_law_834 rfl (lv_at hl 1 rfl) ?_
  refine lv_aload_n hx hb dL_law_835 rfl (lv_at hl 0 rfl) ?_
  refine lv_iload_n hx hb dL_law_836 rfl (lv_at hl 3 rfl) ?_
  refine lv_iconst (v := (1 : Int32)) hx hb dL_law_837 (by decide) ?_
  refine lv_iadd hx hb dL_law_838 ?_
  refine va_sld hx hb hX hbl hbA hS hin1 dL_law_839 ?_
  refine lv_aload_n hx hb dL_law_840 rfl (lv_at hl 0 rfl) ?_
  refine lv_iload_n hx hb dL_law_841 rfl (lv_at hl 3 rfl) ?_
  refine lv_iconst (v := (2 : Int32)) hx hb dL_law_842 (by decide) ?_
  refine lv_iadd hx hb dL_law_843 ?_
  refine va_sld hx hb hX hbl hbA hS hin2 dL_law_844 ?_
  obtain ⟨r, MC', MM', hc1, hc2, hs2⟩ := hs_odds k MC MM nS nL (xs (nI (6 * k) + (1 : Int32)).toNatClampNeg) (xs (nI (6 * k) + (2 : Int32)).toNatClampNeg) hk64 hs
  refine lw_cCI hx hb hml hown hts hK hZ hS hC hM hMb [.int (xs (nI (6 * k) + (1 : Int32)).toNatClampNeg), .int (xs (nI (6 * k) + (2 : Int32)).toNatClampNeg)] (mX11_odds (l := l) ZC_ok (xs (nI (6 * k) + (1 : Int32)).toNatClampNeg) (xs (nI (6 * k) + (2 : Int32)).toNatClampNeg) MC r MC' hc1) rfl pmX11_odds tw982 ⟨Nat.le_of_ble_eq_true rfl, Nat.le_of_ble_eq_true rfl⟩ rfl hl.1 (Nat.le_of_ble_eq_true rfl) ⟨(show 82 + 20 * k + 0 ≤ 600000 by omega), (show 9444 + 120 * k + 0 ≤ 7302250 by omega)⟩ rfl dL_law_845 (fun H locs hC hM hS => ?_)
  refine lv_aload_n hx hb dL_law_848 rfl (lv_at hl 2 rfl) ?_
  refine lv_aload_n hx hb dL_law_849 rfl (lv_at hl 0 rfl) ?_
  refine lv_iload_n hx hb dL_law_850 rfl (lv_at hl 3 rfl) ?_
  refine lv_iconst (v := (1 : Int32)) hx hb dL_law_851 (by decide) ?_
  refine lv_iadd hx hb dL_law_852 ?_
  refine va_sld hx hb hX hbl hbA hS hin1 dL_law_853 ?_
  refine lv_aload_n hx hb dL_law_854 rfl (lv_at hl 0 rfl) ?_
  refine lv_iload_n hx hb dL_law_855 rfl (lv_at hl 3 rfl) ?_
  refine lv_iconst (v := (2 : Int32)) hx hb dL_law_856 (by decide) ?_
  refine lv_iadd hx hb dL_law_857 ?_
  refine va_sld hx hb hX hbl hbA hS hin2 dL_law_858 ?_
  refine lw_cMI hx hb hml hown hts hK hZ hS hC hM hMb [.int (xs (nI (6 * k) + (1 : Int32)).toNatClampNeg), .int (xs (nI (6 * k) + (2 : Int32)).toNatClampNeg)] (mX12_odds (l := l) ZT_ok (xs (nI (6 * k) + (1 : Int32)).toNatClampNeg) (xs (nI (6 * k) + (2 : Int32)).toNatClampNeg) MM r MM' hc2) rfl pmX12_odds tw1613 ⟨Nat.le_of_ble_eq_true rfl, Nat.le_of_ble_eq_true rfl⟩ rfl hl.1 (Nat.le_of_ble_eq_true rfl) ⟨(show 82 + 20 * k + 0 ≤ 600000 by omega), (show 9444 + 120 * k + 0 ≤ 7302250 by omega)⟩ rfl dL_law_859 (fun H locs hC hM hS => ?_)
  refine lv_icmp_eq (tgt := 1594) hx hb dL_law_862 (by decide) (fun _ => ?_) (fun hc => absurd rfl hc)
  refine lv_iinc (v := nI (6 * (k + 1))) (lv' := [(3, .int (nI (6 * (k + 1)))), (0, .ref b), (1, .ref (adC 11 0)), (2, .ref (adM 12 0))]) hx hb dL_law_1594 hl (k := 3) rfl (nI_add (6 * k) 6) (by decide) rfl (fun ls hl => ?_)
  refine lv_goto (tgt := 18) hx hb dL_law_1597 (by decide) ?_
  refine W.widen (k := 82 + 20 * (k + 1)) (n := 9444 + 120 * (k + 1)) (by omega) (by omega) ?_
  exact ih MC' MM' nS nL adC _ _ _ hs2 hC hM hS (lv_sub hl [1, 2, 3, 0] rfl)
set_option maxHeartbeats 4000000 in
set_option maxRecDepth 100000 in
theorem law_case20 {p : Program} {l : Launch} {e : Env} {s : State} {m : MethodId} {below : List Frame} {meth : Method} {c : Code} {D : va_G} {cy : Nat → ClassId} {K : KC} {adM : Nat → Nat → Nat} {b L : Nat} {xs : Nat → Int32} {Sim : Nat → Mem → Mem → Nat → Nat → Prop} (C0 : LwC p l e s m below meth c D cy K adM b L xs) (hs_letter : ∀ (k : Nat) (MC MM : Mem) (nS nL : Nat) (a1 : Int32), k < 64 → Sim k MC MM nS nL → ∃ (r : Int32) (MC' : Mem) (MM' : Mem), fX11_letter a1 MC = some (r, MC') ∧ fX12_letter a1 MM = some (r, MM') ∧ Sim (k + 1) MC' MM' nS nL) (k : Nat) (hk64 : k < 64) (hin : ∀ j : Nat, j < 6 → vp_in (nI (6 * k) + nI j) L) (ih : LwG p l e s m below meth c D cy adM b Sim 18 (k + 1)) : LwG p l e s m below meth c D cy adM b Sim 867 k := by
  obtain ⟨hx, hb, hml, hown, hts, hX, hbl, hK, hZ, hMb⟩ := C0
  intro MC MM nS nL adC H locs ls hs hC hM hS hl
  have hbA : ¬ (fun q : Nat => s.heap.size ≤ q) b := Nat.not_le.mpr hbl
  have hin1 : vp_in (nI (6 * k) + (1 : Int32)) L := hin 1 (by decide)
  have hin2 : vp_in (nI (6 * k) + (2 : Int32)) L := hin 2 (by decide)
  have hin3 : vp_in (nI (6 * k) + (3 : Int32)) L := hin 3 (by decide)
  have hin4 : vp_in (nI (6 * k) + (4 : Int32)) L := hin 4 (by decide)
  have hin5 : vp_in (nI (6 * k) + (5 : Int32)) L := hin 5 (by decide)
  refine lv_aload_n hx hb dL_law_867 rfl (lv_at hl 1 rfl) ?_
  refine lv_aload_n hx hb dL_law_868 rfl (lv_at hl 0 rfl) ?_
  refine lv_iload_n hx hb dL_law_869 rfl (lv_at hl 3 rfl) ?_
  refine lv_iconst (v := (1 : Int32)) hx hb dL_law_870 (by decide) ?_
  refine lv_iadd hx hb dL_law_871 ?_
  refine va_sld hx hb hX hbl hbA hS hin1 dL_law_872 ?_
  obtain ⟨r, MC', MM', hc1, hc2, hs2⟩ := hs_letter k MC MM nS nL (xs (nI (6 * k) + (1 : Int32)).toNatClampNeg) hk64 hs
  refine lw_cCI hx hb hml hown hts hK hZ hS hC hM hMb [.int (xs (nI (6 * k) + (1 : Int32)).toNatClampNeg)] (mX11_letter (l := l) ZC_ok (xs (nI (6 * k) + (1 : Int32)).toNatClampNeg) MC r MC' hc1) rfl pmX11_letter tw987 ⟨Nat.le_of_ble_eq_true rfl, Nat.le_of_ble_eq_true rfl⟩ rfl hl.1 (Nat.le_of_ble_eq_true rfl) ⟨(show 82 + 20 * k + 0 ≤ 600000 by omega), (show 9444 + 120 * k + 0 ≤ 7302250 by omega)⟩ rfl dL_law_873 (fun H locs hC hM hS => ?_)
  refine lv_aload_n hx hb dL_law_876 rfl (lv_at hl 2 rfl) ?_
  refine lv_aload_n hx hb dL_law_877 rfl (lv_at hl 0 rfl) ?_
  refine lv_iload_n hx hb dL_law_878 rfl (lv_at hl 3 rfl) ?_
  refine lv_iconst (v := (1 : Int32)) hx hb dL_law_879 (by decide) ?_
  refine lv_iadd hx hb dL_law_880 ?_
  refine va_sld hx hb hX hbl hbA hS hin1 dL_law_881 ?_
  refine lw_cMI hx hb hml hown hts hK hZ hS hC hM hMb [.int (xs (nI (6 * k) + (1 : Int32)).toNatClampNeg)] (mX12_letter (l := l) ZT_ok (xs (nI (6 * k) + (1 : Int32)).toNatClampNeg) MM r MM' hc2) rfl pmX12_letter tw1651 ⟨Nat.le_of_ble_eq_true rfl, Nat.le_of_ble_eq_true rfl⟩ rfl hl.1 (Nat.le_of_ble_eq_true rfl) ⟨(show 82 + 20 * k + 0 ≤ 600000 by omega), (show 9444 + 120 * k + 0 ≤ 7302250 by omega)⟩ rfl dL_law_882 (fun H locs hC hM hS => ?_)
  refine lv_icmp_eq (tgt := 1594) hx hb dL_law_885 (by decide) (fun _ => ?_) (fun hc => absurd rfl hc)
  refine lv_iinc (v := nI (6 * (k + 1))) (lv' := [(3, .int (nI (6 * (k + 1)))), (0, .ref b), (1, .ref (adC 11 0)), (2, .ref (adM 12 0))]) hx hb dL_law_1594 hl (k := 3) rfl (nI_add (6 * k) 6) (by decide) rfl (fun ls hl => ?_)
  refine lv_goto (tgt := 18) hx hb dL_law_1597 (by decide) ?_
  refine W.widen (k := 82 + 20 * (k + 1)) (n := 9444 + 120 * (k + 1)) (by omega) (by omega) ?_
  exact ih MC' MM' nS nL adC _ _ _ hs2 hC hM hS (lv_sub hl [1, 2, 3, 0] rfl)
set_option maxHeartbeats 4000000 in
set_option maxRecDepth 100000 in
theorem law_case21 {p : Program} {l : Launch} {e : Env} {s : State} {m : MethodId} {below : List Frame} {meth : Method} {c : Code} {D : va_G} {cy : Nat → ClassId} {K : KC} {adM : Nat → Nat → Nat} {b L : Nat} {xs : Nat → Int32} {Sim : Nat → Mem → Mem → Nat → Nat → Prop} (C0 : LwC p l e s m below meth c D cy K adM b L xs) (hs_copy : ∀ (k : Nat) (MC MM : Mem) (nS nL : Nat) (a1 : Int32) (a2 : Int32), k < 64 → Sim k MC MM nS nL → ∃ (r : Int32) (MC' : Mem) (MM' : Mem), fX11_copy a1 a2 MC = some (r, MC') ∧ fX12_copy a1 a2 MM = some (r, MM') ∧ Sim (k + 1) MC' MM' nS nL) (k : Nat) (hk64 : k < 64) (hin : ∀ j : Nat, j < 6 → vp_in (nI (6 * k) + nI j) L) (ih : LwG p l e s m below meth c D cy adM b Sim 18 (k + 1)) : LwG p l e s m below meth c D cy adM b Sim 890 k := by
  obtain ⟨hx, hb, hml, hown, hts, hX, hbl, hK, hZ, hMb⟩ := C0
  intro MC MM nS nL adC H locs ls hs hC hM hS hl
  have hbA : ¬ (fun q : Nat => s.heap.size ≤ q) b := Nat.not_le.mpr hbl
  have hin1 : vp_in (nI (6 * k) + (1 : Int32)) L := hin 1 (by decide)
  have hin2 : vp_in (nI (6 * k) + (2 : Int32)) L := hin 2 (by decide)
  have hin3 : vp_in (nI (6 * k) + (3 : Int32)) L := hin 3 (by decide)
  have hin4 : vp_in (nI (6 * k) + (4 : Int32)) L := hin 4 (by decide)
  have hin5 : vp_in (nI (6 * k) + (5 : Int32)) L := hin 5 (by decide)
  refine lv_aload_n hx hb dL_law_890 rfl (lv_at hl 1 rfl) ?_
  refine lv_aload_n hx hb dL_law_891 rfl (lv_at hl 0 rfl) ?_
  refine lv_iload_n hx hb dL_law_892 rfl (lv_at hl 3 rfl) ?_
  refine lv_iconst (v := (1 : Int32)) hx hb dL_law_893 (by decide) ?_
  refine lv_iadd hx hb dL_law_894 ?_
  refine va_sld hx hb hX hbl hbA hS hin1 dL_law_895 ?_
  refine lv_aload_n hx hb dL_law_896 rfl (lv_at hl 0 rfl) ?_
  refine lv_iload_n hx hb dL_law_897 rfl (lv_at hl 3 rfl) ?_
  refine lv_iconst (v := (2 : Int32)) hx hb dL_law_898 (by decide) ?_
  refine lv_iadd hx hb dL_law_899 ?_
  refine va_sld hx hb hX hbl hbA hS hin2 dL_law_900 ?_
  obtain ⟨r, MC', MM', hc1, hc2, hs2⟩ := hs_copy k MC MM nS nL (xs (nI (6 * k) + (1 : Int32)).toNatClampNeg) (xs (nI (6 * k) + (2 : Int32)).toNatClampNeg) hk64 hs
  refine lw_cCI hx hb hml hown hts hK hZ hS hC hM hMb [.int (xs (nI (6 * k) + (1 : Int32)).toNatClampNeg), .int (xs (nI (6 * k) + (2 : Int32)).toNatClampNeg)] (mX11_copy (l := l) ZC_ok (xs (nI (6 * k) + (1 : Int32)).toNatClampNeg) (xs (nI (6 * k) + (2 : Int32)).toNatClampNeg) MC r MC' hc1) rfl pmX11_copy tw991 ⟨Nat.le_of_ble_eq_true rfl, Nat.le_of_ble_eq_true rfl⟩ rfl hl.1 (Nat.le_of_ble_eq_true rfl) ⟨(show 82 + 20 * k + 0 ≤ 600000 by omega), (show 9444 + 120 * k + 0 ≤ 7302250 by omega)⟩ rfl dL_law_901 (fun H locs hC hM hS => ?_)
  refine lv_aload_n hx hb dL_law_904 rfl (lv_at hl 2 rfl) ?_
  refine lv_aload_n hx hb dL_law_905 rfl (lv_at hl 0 rfl) ?_
  refine lv_iload_n hx hb dL_law_906 rfl (lv_at hl 3 rfl) ?_
  refine lv_iconst (v := (1 : Int32)) hx hb dL_law_907 (by decide) ?_
  refine lv_iadd hx hb dL_law_908 ?_
  refine va_sld hx hb hX hbl hbA hS hin1 dL_law_909 ?_
  refine lv_aload_n hx hb dL_law_910 rfl (lv_at hl 0 rfl) ?_
  refine lv_iload_n hx hb dL_law_911 rfl (lv_at hl 3 rfl) ?_
  refine lv_iconst (v := (2 : Int32)) hx hb dL_law_912 (by decide) ?_
  refine lv_iadd hx hb dL_law_913 ?_
  refine va_sld hx hb hX hbl hbA hS hin2 dL_law_914 ?_
  refine lw_cMI hx hb hml hown hts hK hZ hS hC hM hMb [.int (xs (nI (6 * k) + (1 : Int32)).toNatClampNeg), .int (xs (nI (6 * k) + (2 : Int32)).toNatClampNeg)] (mX12_copy (l := l) ZT_ok (xs (nI (6 * k) + (1 : Int32)).toNatClampNeg) (xs (nI (6 * k) + (2 : Int32)).toNatClampNeg) MM r MM' hc2) rfl pmX12_copy tw1655 ⟨Nat.le_of_ble_eq_true rfl, Nat.le_of_ble_eq_true rfl⟩ rfl hl.1 (Nat.le_of_ble_eq_true rfl) ⟨(show 82 + 20 * k + 0 ≤ 600000 by omega), (show 9444 + 120 * k + 0 ≤ 7302250 by omega)⟩ rfl dL_law_915 (fun H locs hC hM hS => ?_)
  refine lv_icmp_eq (tgt := 1594) hx hb dL_law_918 (by decide) (fun _ => ?_) (fun hc => absurd rfl hc)
  refine lv_iinc (v := nI (6 * (k + 1))) (lv' := [(3, .int (nI (6 * (k + 1)))), (0, .ref b), (1, .ref (adC 11 0)), (2, .ref (adM 12 0))]) hx hb dL_law_1594 hl (k := 3) rfl (nI_add (6 * k) 6) (by decide) rfl (fun ls hl => ?_)
  refine lv_goto (tgt := 18) hx hb dL_law_1597 (by decide) ?_
  refine W.widen (k := 82 + 20 * (k + 1)) (n := 9444 + 120 * (k + 1)) (by omega) (by omega) ?_
  exact ih MC' MM' nS nL adC _ _ _ hs2 hC hM hS (lv_sub hl [1, 2, 3, 0] rfl)
set_option maxHeartbeats 4000000 in
set_option maxRecDepth 100000 in
theorem law_case22 {p : Program} {l : Launch} {e : Env} {s : State} {m : MethodId} {below : List Frame} {meth : Method} {c : Code} {D : va_G} {cy : Nat → ClassId} {K : KC} {adM : Nat → Nat → Nat} {b L : Nat} {xs : Nat → Int32} {Sim : Nat → Mem → Mem → Nat → Nat → Prop} (C0 : LwC p l e s m below meth c D cy K adM b L xs) (hs_mark : ∀ (k : Nat) (MC MM : Mem) (nS nL : Nat) (a1 : Int32) (a2 : Int32), k < 64 → Sim k MC MM nS nL → ∃ (r : Int32) (MC' : Mem) (MM' : Mem), fX11_mark a1 a2 MC = some (r, MC') ∧ fX12_mark a1 a2 MM = some (r, MM') ∧ Sim (k + 1) MC' MM' nS nL) (k : Nat) (hk64 : k < 64) (hin : ∀ j : Nat, j < 6 → vp_in (nI (6 * k) + nI j) L) (ih : LwG p l e s m below meth c D cy adM b Sim 18 (k + 1)) : LwG p l e s m below meth c D cy adM b Sim 923 k := by
  obtain ⟨hx, hb, hml, hown, hts, hX, hbl, hK, hZ, hMb⟩ := C0
  intro MC MM nS nL adC H locs ls hs hC hM hS hl
  have hbA : ¬ (fun q : Nat => s.heap.size ≤ q) b := Nat.not_le.mpr hbl
  have hin1 : vp_in (nI (6 * k) + (1 : Int32)) L := hin 1 (by decide)
  have hin2 : vp_in (nI (6 * k) + (2 : Int32)) L := hin 2 (by decide)
  have hin3 : vp_in (nI (6 * k) + (3 : Int32)) L := hin 3 (by decide)
  have hin4 : vp_in (nI (6 * k) + (4 : Int32)) L := hin 4 (by decide)
  have hin5 : vp_in (nI (6 * k) + (5 : Int32)) L := hin 5 (by decide)
  refine lv_aload_n hx hb dL_law_923 rfl (lv_at hl 1 rfl) ?_
  refine lv_aload_n hx hb dL_law_924 rfl (lv_at hl 0 rfl) ?_
  refine lv_iload_n hx hb dL_law_925 rfl (lv_at hl 3 rfl) ?_
  refine lv_iconst (v := (1 : Int32)) hx hb dL_law_926 (by decide) ?_
  refine lv_iadd hx hb dL_law_927 ?_
  refine va_sld hx hb hX hbl hbA hS hin1 dL_law_928 ?_
  refine lv_aload_n hx hb dL_law_929 rfl (lv_at hl 0 rfl) ?_
  refine lv_iload_n hx hb dL_law_930 rfl (lv_at hl 3 rfl) ?_
  refine lv_iconst (v := (2 : Int32)) hx hb dL_law_931 (by decide) ?_
  refine lv_iadd hx hb dL_law_932 ?_
  refine va_sld hx hb hX hbl hbA hS hin2 dL_law_933 ?_
  obtain ⟨r, MC', MM', hc1, hc2, hs2⟩ := hs_mark k MC MM nS nL (xs (nI (6 * k) + (1 : Int32)).toNatClampNeg) (xs (nI (6 * k) + (2 : Int32)).toNatClampNeg) hk64 hs
  refine lw_cCI hx hb hml hown hts hK hZ hS hC hM hMb [.int (xs (nI (6 * k) + (1 : Int32)).toNatClampNeg), .int (xs (nI (6 * k) + (2 : Int32)).toNatClampNeg)] (mX11_mark (l := l) ZC_ok (xs (nI (6 * k) + (1 : Int32)).toNatClampNeg) (xs (nI (6 * k) + (2 : Int32)).toNatClampNeg) MC r MC' hc1) rfl pmX11_mark tw999 ⟨Nat.le_of_ble_eq_true rfl, Nat.le_of_ble_eq_true rfl⟩ rfl hl.1 (Nat.le_of_ble_eq_true rfl) ⟨(show 82 + 20 * k + 0 ≤ 600000 by omega), (show 9444 + 120 * k + 0 ≤ 7302250 by omega)⟩ rfl dL_law_934 (fun H locs hC hM hS => ?_)
  refine lv_aload_n hx hb dL_law_937 rfl (lv_at hl 2 rfl) ?_
  refine lv_aload_n hx hb dL_law_938 rfl (lv_at hl 0 rfl) ?_
  refine lv_iload_n hx hb dL_law_939 rfl (lv_at hl 3 rfl) ?_
  refine lv_iconst (v := (1 : Int32)) hx hb dL_law_940 (by decide) ?_
  refine lv_iadd hx hb dL_law_941 ?_
  refine va_sld hx hb hX hbl hbA hS hin1 dL_law_942 ?_
  refine lv_aload_n hx hb dL_law_943 rfl (lv_at hl 0 rfl) ?_
  refine lv_iload_n hx hb dL_law_944 rfl (lv_at hl 3 rfl) ?_
  refine lv_iconst (v := (2 : Int32)) hx hb dL_law_945 (by decide) ?_
  refine lv_iadd hx hb dL_law_946 ?_
  refine va_sld hx hb hX hbl hbA hS hin2 dL_law_947 ?_
  refine lw_cMI hx hb hml hown hts hK hZ hS hC hM hMb [.int (xs (nI (6 * k) + (1 : Int32)).toNatClampNeg), .int (xs (nI (6 * k) + (2 : Int32)).toNatClampNeg)] (mX12_mark (l := l) ZT_ok (xs (nI (6 * k) + (1 : Int32)).toNatClampNeg) (xs (nI (6 * k) + (2 : Int32)).toNatClampNeg) MM r MM' hc2) rfl pmX12_mark tw1659 ⟨Nat.le_of_ble_eq_true rfl, Nat.le_of_ble_eq_true rfl⟩ rfl hl.1 (Nat.le_of_ble_eq_true rfl) ⟨(show 82 + 20 * k + 0 ≤ 600000 by omega), (show 9444 + 120 * k + 0 ≤ 7302250 by omega)⟩ rfl dL_law_948 (fun H locs hC hM hS => ?_)
  refine lv_icmp_eq (tgt := 1594) hx hb dL_law_951 (by decide) (fun _ => ?_) (fun hc => absurd rfl hc)
  refine lv_iinc (v := nI (6 * (k + 1))) (lv' := [(3, .int (nI (6 * (k + 1)))), (0, .ref b), (1, .ref (adC 11 0)), (2, .ref (adM 12 0))]) hx hb dL_law_1594 hl (k := 3) rfl (nI_add (6 * k) 6) (by decide) rfl (fun ls hl => ?_)
  refine lv_goto (tgt := 18) hx hb dL_law_1597 (by decide) ?_
  refine W.widen (k := 82 + 20 * (k + 1)) (n := 9444 + 120 * (k + 1)) (by omega) (by omega) ?_
  exact ih MC' MM' nS nL adC _ _ _ hs2 hC hM hS (lv_sub hl [1, 2, 3, 0] rfl)
set_option maxHeartbeats 4000000 in
set_option maxRecDepth 100000 in
theorem law_case23 {p : Program} {l : Launch} {e : Env} {s : State} {m : MethodId} {below : List Frame} {meth : Method} {c : Code} {D : va_G} {cy : Nat → ClassId} {K : KC} {adM : Nat → Nat → Nat} {b L : Nat} {xs : Nat → Int32} {Sim : Nat → Mem → Mem → Nat → Nat → Prop} (C0 : LwC p l e s m below meth c D cy K adM b L xs) (hs_lacks : ∀ (k : Nat) (MC MM : Mem) (nS nL : Nat) (a1 : Int32), k < 64 → Sim k MC MM nS nL → ∃ (r : Int32), fX11_lacks a1 MC = some r ∧ fX12_lacks a1 MM = some r ∧ Sim (k + 1) MC MM nS nL) (k : Nat) (hk64 : k < 64) (hin : ∀ j : Nat, j < 6 → vp_in (nI (6 * k) + nI j) L) (ih : LwG p l e s m below meth c D cy adM b Sim 18 (k + 1)) : LwG p l e s m below meth c D cy adM b Sim 956 k := by
  obtain ⟨hx, hb, hml, hown, hts, hX, hbl, hK, hZ, hMb⟩ := C0
  intro MC MM nS nL adC H locs ls hs hC hM hS hl
  have hbA : ¬ (fun q : Nat => s.heap.size ≤ q) b := Nat.not_le.mpr hbl
  have hin1 : vp_in (nI (6 * k) + (1 : Int32)) L := hin 1 (by decide)
  have hin2 : vp_in (nI (6 * k) + (2 : Int32)) L := hin 2 (by decide)
  have hin3 : vp_in (nI (6 * k) + (3 : Int32)) L := hin 3 (by decide)
  have hin4 : vp_in (nI (6 * k) + (4 : Int32)) L := hin 4 (by decide)
  have hin5 : vp_in (nI (6 * k) + (5 : Int32)) L := hin 5 (by decide)
  refine lv_aload_n hx hb dL_law_956 rfl (lv_at hl 1 rfl) ?_
  refine lv_aload_n hx hb dL_law_957 rfl (lv_at hl 0 rfl) ?_
  refine lv_iload_n hx hb dL_law_958 rfl (lv_at hl 3 rfl) ?_
  refine lv_iconst (v := (1 : Int32)) hx hb dL_law_959 (by decide) ?_
  refine lv_iadd hx hb dL_law_960 ?_
  refine va_sld hx hb hX hbl hbA hS hin1 dL_law_961 ?_
  obtain ⟨r, hc1, hc2, hs2⟩ := hs_lacks k MC MM nS nL (xs (nI (6 * k) + (1 : Int32)).toNatClampNeg) hk64 hs
  refine lw_cCI hx hb hml hown hts hK hZ hS hC hM hMb [.int (xs (nI (6 * k) + (1 : Int32)).toNatClampNeg)] (mX11_lacks (l := l) ZC_ok (xs (nI (6 * k) + (1 : Int32)).toNatClampNeg) MC r hc1) rfl pmX11_lacks tw1004 ⟨Nat.le_of_ble_eq_true rfl, Nat.le_of_ble_eq_true rfl⟩ rfl hl.1 (Nat.le_of_ble_eq_true rfl) ⟨(show 82 + 20 * k + 0 ≤ 600000 by omega), (show 9444 + 120 * k + 0 ≤ 7302250 by omega)⟩ rfl dL_law_962 (fun H locs hC hM hS => ?_)
  refine lv_aload_n hx hb dL_law_965 rfl (lv_at hl 2 rfl) ?_
  refine lv_aload_n hx hb dL_law_966 rfl (lv_at hl 0 rfl) ?_
  refine lv_iload_n hx hb dL_law_967 rfl (lv_at hl 3 rfl) ?_
  refine lv_iconst (v := (1 : Int32)) hx hb dL_law_968 (by decide) ?_
  refine lv_iadd hx hb dL_law_969 ?_
  refine va_sld hx hb hX hbl hbA hS hin1 dL_law_970 ?_
  refine lw_cMI hx hb hml hown hts hK hZ hS hC hM hMb [.int (xs (nI (6 * k) + (1 : Int32)).toNatClampNeg)] (mX12_lacks (l := l) ZT_ok (xs (nI (6 * k) + (1 : Int32)).toNatClampNeg) MM r hc2) rfl pmX12_lacks tw1663 ⟨Nat.le_of_ble_eq_true rfl, Nat.le_of_ble_eq_true rfl⟩ rfl hl.1 (Nat.le_of_ble_eq_true rfl) ⟨(show 82 + 20 * k + 0 ≤ 600000 by omega), (show 9444 + 120 * k + 0 ≤ 7302250 by omega)⟩ rfl dL_law_971 (fun H locs hC hM hS => ?_)
  refine lv_icmp_eq (tgt := 1594) hx hb dL_law_974 (by decide) (fun _ => ?_) (fun hc => absurd rfl hc)
  refine lv_iinc (v := nI (6 * (k + 1))) (lv' := [(3, .int (nI (6 * (k + 1)))), (0, .ref b), (1, .ref (adC 11 0)), (2, .ref (adM 12 0))]) hx hb dL_law_1594 hl (k := 3) rfl (nI_add (6 * k) 6) (by decide) rfl (fun ls hl => ?_)
  refine lv_goto (tgt := 18) hx hb dL_law_1597 (by decide) ?_
  refine W.widen (k := 82 + 20 * (k + 1)) (n := 9444 + 120 * (k + 1)) (by omega) (by omega) ?_
  exact ih MC MM nS nL adC _ _ _ hs2 hC hM hS (lv_sub hl [1, 2, 3, 0] rfl)
set_option maxHeartbeats 4000000 in
set_option maxRecDepth 100000 in
theorem law_case24 {p : Program} {l : Launch} {e : Env} {s : State} {m : MethodId} {below : List Frame} {meth : Method} {c : Code} {D : va_G} {cy : Nat → ClassId} {K : KC} {adM : Nat → Nat → Nat} {b L : Nat} {xs : Nat → Int32} {Sim : Nat → Mem → Mem → Nat → Nat → Prop} (C0 : LwC p l e s m below meth c D cy K adM b L xs) (hs_tell : ∀ (k : Nat) (MC MM : Mem) (nS nL : Nat) (a1 : Int32) (a2 : Int32), k < 64 → Sim k MC MM nS nL → ∃ (r : Int32) (MC' : Mem) (MM' : Mem), fX11_tell a1 a2 MC = some (r, MC') ∧ fX12_tell a1 a2 MM = some (r, MM') ∧ Sim (k + 1) MC' MM' nS nL) (k : Nat) (hk64 : k < 64) (hin : ∀ j : Nat, j < 6 → vp_in (nI (6 * k) + nI j) L) (ih : LwG p l e s m below meth c D cy adM b Sim 18 (k + 1)) : LwG p l e s m below meth c D cy adM b Sim 979 k := by
  obtain ⟨hx, hb, hml, hown, hts, hX, hbl, hK, hZ, hMb⟩ := C0
  intro MC MM nS nL adC H locs ls hs hC hM hS hl
  have hbA : ¬ (fun q : Nat => s.heap.size ≤ q) b := Nat.not_le.mpr hbl
  have hin1 : vp_in (nI (6 * k) + (1 : Int32)) L := hin 1 (by decide)
  have hin2 : vp_in (nI (6 * k) + (2 : Int32)) L := hin 2 (by decide)
  have hin3 : vp_in (nI (6 * k) + (3 : Int32)) L := hin 3 (by decide)
  have hin4 : vp_in (nI (6 * k) + (4 : Int32)) L := hin 4 (by decide)
  have hin5 : vp_in (nI (6 * k) + (5 : Int32)) L := hin 5 (by decide)
  refine lv_aload_n hx hb dL_law_979 rfl (lv_at hl 1 rfl) ?_
  refine lv_aload_n hx hb dL_law_980 rfl (lv_at hl 0 rfl) ?_
  refine lv_iload_n hx hb dL_law_981 rfl (lv_at hl 3 rfl) ?_
  refine lv_iconst (v := (1 : Int32)) hx hb dL_law_982 (by decide) ?_
  refine lv_iadd hx hb dL_law_983 ?_
  refine va_sld hx hb hX hbl hbA hS hin1 dL_law_984 ?_
  refine lv_aload_n hx hb dL_law_985 rfl (lv_at hl 0 rfl) ?_
  refine lv_iload_n hx hb dL_law_986 rfl (lv_at hl 3 rfl) ?_
  refine lv_iconst (v := (2 : Int32)) hx hb dL_law_987 (by decide) ?_
  refine lv_iadd hx hb dL_law_988 ?_
  refine va_sld hx hb hX hbl hbA hS hin2 dL_law_989 ?_
  obtain ⟨r, MC', MM', hc1, hc2, hs2⟩ := hs_tell k MC MM nS nL (xs (nI (6 * k) + (1 : Int32)).toNatClampNeg) (xs (nI (6 * k) + (2 : Int32)).toNatClampNeg) hk64 hs
  refine lw_cCI hx hb hml hown hts hK hZ hS hC hM hMb [.int (xs (nI (6 * k) + (1 : Int32)).toNatClampNeg), .int (xs (nI (6 * k) + (2 : Int32)).toNatClampNeg)] (mX11_tell (l := l) ZC_ok (xs (nI (6 * k) + (1 : Int32)).toNatClampNeg) (xs (nI (6 * k) + (2 : Int32)).toNatClampNeg) MC r MC' hc1) rfl pmX11_tell tw1013 ⟨Nat.le_of_ble_eq_true rfl, Nat.le_of_ble_eq_true rfl⟩ rfl hl.1 (Nat.le_of_ble_eq_true rfl) ⟨(show 82 + 20 * k + 0 ≤ 600000 by omega), (show 9444 + 120 * k + 0 ≤ 7302250 by omega)⟩ rfl dL_law_990 (fun H locs hC hM hS => ?_)
  refine lv_aload_n hx hb dL_law_993 rfl (lv_at hl 2 rfl) ?_
  refine lv_aload_n hx hb dL_law_994 rfl (lv_at hl 0 rfl) ?_
  refine lv_iload_n hx hb dL_law_995 rfl (lv_at hl 3 rfl) ?_
  refine lv_iconst (v := (1 : Int32)) hx hb dL_law_996 (by decide) ?_
  refine lv_iadd hx hb dL_law_997 ?_
  refine va_sld hx hb hX hbl hbA hS hin1 dL_law_998 ?_
  refine lv_aload_n hx hb dL_law_999 rfl (lv_at hl 0 rfl) ?_
  refine lv_iload_n hx hb dL_law_1000 rfl (lv_at hl 3 rfl) ?_
  refine lv_iconst (v := (2 : Int32)) hx hb dL_law_1001 (by decide) ?_
  refine lv_iadd hx hb dL_law_1002 ?_
  refine va_sld hx hb hX hbl hbA hS hin2 dL_law_1003 ?_
  refine lw_cMI hx hb hml hown hts hK hZ hS hC hM hMb [.int (xs (nI (6 * k) + (1 : Int32)).toNatClampNeg), .int (xs (nI (6 * k) + (2 : Int32)).toNatClampNeg)] (mX12_tell (l := l) ZT_ok (xs (nI (6 * k) + (1 : Int32)).toNatClampNeg) (xs (nI (6 * k) + (2 : Int32)).toNatClampNeg) MM r MM' hc2) rfl pmX12_tell tw1667 ⟨Nat.le_of_ble_eq_true rfl, Nat.le_of_ble_eq_true rfl⟩ rfl hl.1 (Nat.le_of_ble_eq_true rfl) ⟨(show 82 + 20 * k + 0 ≤ 600000 by omega), (show 9444 + 120 * k + 0 ≤ 7302250 by omega)⟩ rfl dL_law_1004 (fun H locs hC hM hS => ?_)
  refine lv_icmp_eq (tgt := 1594) hx hb dL_law_1007 (by decide) (fun _ => ?_) (fun hc => absurd rfl hc)
  refine lv_iinc (v := nI (6 * (k + 1))) (lv' := [(3, .int (nI (6 * (k + 1)))), (0, .ref b), (1, .ref (adC 11 0)), (2, .ref (adM 12 0))]) hx hb dL_law_1594 hl (k := 3) rfl (nI_add (6 * k) 6) (by decide) rfl (fun ls hl => ?_)
  refine lv_goto (tgt := 18) hx hb dL_law_1597 (by decide) ?_
  refine W.widen (k := 82 + 20 * (k + 1)) (n := 9444 + 120 * (k + 1)) (by omega) (by omega) ?_
  exact ih MC' MM' nS nL adC _ _ _ hs2 hC hM hS (lv_sub hl [1, 2, 3, 0] rfl)
set_option maxHeartbeats 4000000 in
set_option maxRecDepth 100000 in
theorem law_case25 {p : Program} {l : Launch} {e : Env} {s : State} {m : MethodId} {below : List Frame} {meth : Method} {c : Code} {D : va_G} {cy : Nat → ClassId} {K : KC} {adM : Nat → Nat → Nat} {b L : Nat} {xs : Nat → Int32} {Sim : Nat → Mem → Mem → Nat → Nat → Prop} (C0 : LwC p l e s m below meth c D cy K adM b L xs) (hs_land : ∀ (k : Nat) (MC MM : Mem) (nS nL : Nat) (a1 : Int32), k < 64 → Sim k MC MM nS nL → ∃ (r : Int32) (MC' : Mem) (MM' : Mem), fX11_land a1 MC = some (r, MC') ∧ fX12_land a1 MM = some (r, MM') ∧ Sim (k + 1) MC' MM' nS nL) (k : Nat) (hk64 : k < 64) (hin : ∀ j : Nat, j < 6 → vp_in (nI (6 * k) + nI j) L) (ih : LwG p l e s m below meth c D cy adM b Sim 18 (k + 1)) : LwG p l e s m below meth c D cy adM b Sim 1012 k := by
  obtain ⟨hx, hb, hml, hown, hts, hX, hbl, hK, hZ, hMb⟩ := C0
  intro MC MM nS nL adC H locs ls hs hC hM hS hl
  have hbA : ¬ (fun q : Nat => s.heap.size ≤ q) b := Nat.not_le.mpr hbl
  have hin1 : vp_in (nI (6 * k) + (1 : Int32)) L := hin 1 (by decide)
  have hin2 : vp_in (nI (6 * k) + (2 : Int32)) L := hin 2 (by decide)
  have hin3 : vp_in (nI (6 * k) + (3 : Int32)) L := hin 3 (by decide)
  have hin4 : vp_in (nI (6 * k) + (4 : Int32)) L := hin 4 (by decide)
  have hin5 : vp_in (nI (6 * k) + (5 : Int32)) L := hin 5 (by decide)
  refine lv_aload_n hx hb dL_law_1012 rfl (lv_at hl 1 rfl) ?_
  refine lv_aload_n hx hb dL_law_1013 rfl (lv_at hl 0 rfl) ?_
  refine lv_iload_n hx hb dL_law_1014 rfl (lv_at hl 3 rfl) ?_
  refine lv_iconst (v := (1 : Int32)) hx hb dL_law_1015 (by decide) ?_
  refine lv_iadd hx hb dL_law_1016 ?_
  refine va_sld hx hb hX hbl hbA hS hin1 dL_law_1017 ?_
  obtain ⟨r, MC', MM', hc1, hc2, hs2⟩ := hs_land k MC MM nS nL (xs (nI (6 * k) + (1 : Int32)).toNatClampNeg) hk64 hs
  refine lw_cCI hx hb hml hown hts hK hZ hS hC hM hMb [.int (xs (nI (6 * k) + (1 : Int32)).toNatClampNeg)] (mX11_land (l := l) ZC_ok (xs (nI (6 * k) + (1 : Int32)).toNatClampNeg) MC r MC' hc1) rfl pmX11_land tw1031 ⟨Nat.le_of_ble_eq_true rfl, Nat.le_of_ble_eq_true rfl⟩ rfl hl.1 (Nat.le_of_ble_eq_true rfl) ⟨(show 82 + 20 * k + 0 ≤ 600000 by omega), (show 9444 + 120 * k + 0 ≤ 7302250 by omega)⟩ rfl dL_law_1018 (fun H locs hC hM hS => ?_)
  refine lv_aload_n hx hb dL_law_1021 rfl (lv_at hl 2 rfl) ?_
  refine lv_aload_n hx hb dL_law_1022 rfl (lv_at hl 0 rfl) ?_
  refine lv_iload_n hx hb dL_law_1023 rfl (lv_at hl 3 rfl) ?_
  refine lv_iconst (v := (1 : Int32)) hx hb dL_law_1024 (by decide) ?_
  refine lv_iadd hx hb dL_law_1025 ?_
  refine va_sld hx hb hX hbl hbA hS hin1 dL_law_1026 ?_
  refine lw_cMI hx hb hml hown hts hK hZ hS hC hM hMb [.int (xs (nI (6 * k) + (1 : Int32)).toNatClampNeg)] (mX12_land (l := l) ZT_ok (xs (nI (6 * k) + (1 : Int32)).toNatClampNeg) MM r MM' hc2) rfl pmX12_land tw1671 ⟨Nat.le_of_ble_eq_true rfl, Nat.le_of_ble_eq_true rfl⟩ rfl hl.1 (Nat.le_of_ble_eq_true rfl) ⟨(show 82 + 20 * k + 0 ≤ 600000 by omega), (show 9444 + 120 * k + 0 ≤ 7302250 by omega)⟩ rfl dL_law_1027 (fun H locs hC hM hS => ?_)
  refine lv_icmp_eq (tgt := 1594) hx hb dL_law_1030 (by decide) (fun _ => ?_) (fun hc => absurd rfl hc)
  refine lv_iinc (v := nI (6 * (k + 1))) (lv' := [(3, .int (nI (6 * (k + 1)))), (0, .ref b), (1, .ref (adC 11 0)), (2, .ref (adM 12 0))]) hx hb dL_law_1594 hl (k := 3) rfl (nI_add (6 * k) 6) (by decide) rfl (fun ls hl => ?_)
  refine lv_goto (tgt := 18) hx hb dL_law_1597 (by decide) ?_
  refine W.widen (k := 82 + 20 * (k + 1)) (n := 9444 + 120 * (k + 1)) (by omega) (by omega) ?_
  exact ih MC' MM' nS nL adC _ _ _ hs2 hC hM hS (lv_sub hl [1, 2, 3, 0] rfl)
set_option maxHeartbeats 4000000 in
set_option maxRecDepth 100000 in
theorem law_case26 {p : Program} {l : Launch} {e : Env} {s : State} {m : MethodId} {below : List Frame} {meth : Method} {c : Code} {D : va_G} {cy : Nat → ClassId} {K : KC} {adM : Nat → Nat → Nat} {b L : Nat} {xs : Nat → Int32} {Sim : Nat → Mem → Mem → Nat → Nat → Prop} (C0 : LwC p l e s m below meth c D cy K adM b L xs) (hs_name : ∀ (k : Nat) (MC MM : Mem) (nS nL : Nat) (a1 : Int32) (a2 : Int32) (a3 : Int32), k < 64 → Sim k MC MM nS nL → ∃ (r : Int32) (MC' : Mem) (MM' : Mem), fX11_name a1 a2 a3 MC = some (r, MC') ∧ fX12_name a1 a2 a3 MM = some (r, MM') ∧ Sim (k + 1) MC' MM' nS nL) (k : Nat) (hk64 : k < 64) (hin : ∀ j : Nat, j < 6 → vp_in (nI (6 * k) + nI j) L) (ih : LwG p l e s m below meth c D cy adM b Sim 18 (k + 1)) : LwG p l e s m below meth c D cy adM b Sim 1035 k := by
  obtain ⟨hx, hb, hml, hown, hts, hX, hbl, hK, hZ, hMb⟩ := C0
  intro MC MM nS nL adC H locs ls hs hC hM hS hl
  have hbA : ¬ (fun q : Nat => s.heap.size ≤ q) b := Nat.not_le.mpr hbl
  have hin1 : vp_in (nI (6 * k) + (1 : Int32)) L := hin 1 (by decide)
  have hin2 : vp_in (nI (6 * k) + (2 : Int32)) L := hin 2 (by decide)
  have hin3 : vp_in (nI (6 * k) + (3 : Int32)) L := hin 3 (by decide)
  have hin4 : vp_in (nI (6 * k) + (4 : Int32)) L := hin 4 (by decide)
  have hin5 : vp_in (nI (6 * k) + (5 : Int32)) L := hin 5 (by decide)
  refine lv_aload_n hx hb dL_law_1035 rfl (lv_at hl 1 rfl) ?_
  refine lv_aload_n hx hb dL_law_1036 rfl (lv_at hl 0 rfl) ?_
  refine lv_iload_n hx hb dL_law_1037 rfl (lv_at hl 3 rfl) ?_
  refine lv_iconst (v := (1 : Int32)) hx hb dL_law_1038 (by decide) ?_
  refine lv_iadd hx hb dL_law_1039 ?_
  refine va_sld hx hb hX hbl hbA hS hin1 dL_law_1040 ?_
  refine lv_aload_n hx hb dL_law_1041 rfl (lv_at hl 0 rfl) ?_
  refine lv_iload_n hx hb dL_law_1042 rfl (lv_at hl 3 rfl) ?_
  refine lv_iconst (v := (2 : Int32)) hx hb dL_law_1043 (by decide) ?_
  refine lv_iadd hx hb dL_law_1044 ?_
  refine va_sld hx hb hX hbl hbA hS hin2 dL_law_1045 ?_
  refine lv_aload_n hx hb dL_law_1046 rfl (lv_at hl 0 rfl) ?_
  refine lv_iload_n hx hb dL_law_1047 rfl (lv_at hl 3 rfl) ?_
  refine lv_iconst (v := (3 : Int32)) hx hb dL_law_1048 (by decide) ?_
  refine lv_iadd hx hb dL_law_1049 ?_
  refine va_sld hx hb hX hbl hbA hS hin3 dL_law_1050 ?_
  obtain ⟨r, MC', MM', hc1, hc2, hs2⟩ := hs_name k MC MM nS nL (xs (nI (6 * k) + (1 : Int32)).toNatClampNeg) (xs (nI (6 * k) + (2 : Int32)).toNatClampNeg) (xs (nI (6 * k) + (3 : Int32)).toNatClampNeg) hk64 hs
  refine lw_cCI hx hb hml hown hts hK hZ hS hC hM hMb [.int (xs (nI (6 * k) + (1 : Int32)).toNatClampNeg), .int (xs (nI (6 * k) + (2 : Int32)).toNatClampNeg), .int (xs (nI (6 * k) + (3 : Int32)).toNatClampNeg)] (mX11_name (l := l) ZC_ok (xs (nI (6 * k) + (1 : Int32)).toNatClampNeg) (xs (nI (6 * k) + (2 : Int32)).toNatClampNeg) (xs (nI (6 * k) + (3 : Int32)).toNatClampNeg) MC r MC' hc1) rfl pmX11_name tw1047 ⟨Nat.le_of_ble_eq_true rfl, Nat.le_of_ble_eq_true rfl⟩ rfl hl.1 (Nat.le_of_ble_eq_true rfl) ⟨(show 82 + 20 * k + 0 ≤ 600000 by omega), (show 9444 + 120 * k + 0 ≤ 7302250 by omega)⟩ rfl dL_law_1051 (fun H locs hC hM hS => ?_)
  refine lv_aload_n hx hb dL_law_1054 rfl (lv_at hl 2 rfl) ?_
  refine lv_aload_n hx hb dL_law_1055 rfl (lv_at hl 0 rfl) ?_
  refine lv_iload_n hx hb dL_law_1056 rfl (lv_at hl 3 rfl) ?_
  refine lv_iconst (v := (1 : Int32)) hx hb dL_law_1057 (by decide) ?_
  refine lv_iadd hx hb dL_law_1058 ?_
  refine va_sld hx hb hX hbl hbA hS hin1 dL_law_1059 ?_
  refine lv_aload_n hx hb dL_law_1060 rfl (lv_at hl 0 rfl) ?_
  refine lv_iload_n hx hb dL_law_1061 rfl (lv_at hl 3 rfl) ?_
  refine lv_iconst (v := (2 : Int32)) hx hb dL_law_1062 (by decide) ?_
  refine lv_iadd hx hb dL_law_1063 ?_
  refine va_sld hx hb hX hbl hbA hS hin2 dL_law_1064 ?_
  refine lv_aload_n hx hb dL_law_1065 rfl (lv_at hl 0 rfl) ?_
  refine lv_iload_n hx hb dL_law_1066 rfl (lv_at hl 3 rfl) ?_
  refine lv_iconst (v := (3 : Int32)) hx hb dL_law_1067 (by decide) ?_
  refine lv_iadd hx hb dL_law_1068 ?_
  refine va_sld hx hb hX hbl hbA hS hin3 dL_law_1069 ?_
  refine lw_cMI hx hb hml hown hts hK hZ hS hC hM hMb [.int (xs (nI (6 * k) + (1 : Int32)).toNatClampNeg), .int (xs (nI (6 * k) + (2 : Int32)).toNatClampNeg), .int (xs (nI (6 * k) + (3 : Int32)).toNatClampNeg)] (mX12_name (l := l) ZT_ok (xs (nI (6 * k) + (1 : Int32)).toNatClampNeg) (xs (nI (6 * k) + (2 : Int32)).toNatClampNeg) (xs (nI (6 * k) + (3 : Int32)).toNatClampNeg) MM r MM' hc2) rfl pmX12_name tw1675 ⟨Nat.le_of_ble_eq_true rfl, Nat.le_of_ble_eq_true rfl⟩ rfl hl.1 (Nat.le_of_ble_eq_true rfl) ⟨(show 82 + 20 * k + 0 ≤ 600000 by omega), (show 9444 + 120 * k + 0 ≤ 7302250 by omega)⟩ rfl dL_law_1070 (fun H locs hC hM hS => ?_)
  refine lv_icmp_eq (tgt := 1594) hx hb dL_law_1073 (by decide) (fun _ => ?_) (fun hc => absurd rfl hc)
  refine lv_iinc (v := nI (6 * (k + 1))) (lv' := [(3, .int (nI (6 * (k + 1)))), (0, .ref b), (1, .ref (adC 11 0)), (2, .ref (adM 12 0))]) hx hb dL_law_1594 hl (k := 3) rfl (nI_add (6 * k) 6) (by decide) rfl (fun ls hl => ?_)
  refine lv_goto (tgt := 18) hx hb dL_law_1597 (by decide) ?_
  refine W.widen (k := 82 + 20 * (k + 1)) (n := 9444 + 120 * (k + 1)) (by omega) (by omega) ?_
  exact ih MC' MM' nS nL adC _ _ _ hs2 hC hM hS (lv_sub hl [1, 2, 3, 0] rfl)
set_option maxHeartbeats 4000000 in
set_option maxRecDepth 100000 in
theorem law_case27 {p : Program} {l : Launch} {e : Env} {s : State} {m : MethodId} {below : List Frame} {meth : Method} {c : Code} {D : va_G} {cy : Nat → ClassId} {K : KC} {adM : Nat → Nat → Nat} {b L : Nat} {xs : Nat → Int32} {Sim : Nat → Mem → Mem → Nat → Nat → Prop} (C0 : LwC p l e s m below meth c D cy K adM b L xs) (hs_share : ∀ (k : Nat) (MC MM : Mem) (nS nL : Nat) (a1 : Int32) (a2 : Int32), k < 64 → Sim k MC MM nS nL → ∃ (r : Int32), fX11_share a1 a2 MC = some r ∧ fX12_share a1 a2 MM = some r ∧ Sim (k + 1) MC MM nS nL) (k : Nat) (hk64 : k < 64) (hin : ∀ j : Nat, j < 6 → vp_in (nI (6 * k) + nI j) L) (ih : LwG p l e s m below meth c D cy adM b Sim 18 (k + 1)) : LwG p l e s m below meth c D cy adM b Sim 1078 k := by
  obtain ⟨hx, hb, hml, hown, hts, hX, hbl, hK, hZ, hMb⟩ := C0
  intro MC MM nS nL adC H locs ls hs hC hM hS hl
  have hbA : ¬ (fun q : Nat => s.heap.size ≤ q) b := Nat.not_le.mpr hbl
  have hin1 : vp_in (nI (6 * k) + (1 : Int32)) L := hin 1 (by decide)
  have hin2 : vp_in (nI (6 * k) + (2 : Int32)) L := hin 2 (by decide)
  have hin3 : vp_in (nI (6 * k) + (3 : Int32)) L := hin 3 (by decide)
  have hin4 : vp_in (nI (6 * k) + (4 : Int32)) L := hin 4 (by decide)
  have hin5 : vp_in (nI (6 * k) + (5 : Int32)) L := hin 5 (by decide)
  refine lv_aload_n hx hb dL_law_1078 rfl (lv_at hl 1 rfl) ?_
  refine lv_aload_n hx hb dL_law_1079 rfl (lv_at hl 0 rfl) ?_
  refine lv_iload_n hx hb dL_law_1080 rfl (lv_at hl 3 rfl) ?_
  refine lv_iconst (v := (1 : Int32)) hx hb dL_law_1081 (by decide) ?_
  refine lv_iadd hx hb dL_law_1082 ?_
  refine va_sld hx hb hX hbl hbA hS hin1 dL_law_1083 ?_
  refine lv_aload_n hx hb dL_law_1084 rfl (lv_at hl 0 rfl) ?_
  refine lv_iload_n hx hb dL_law_1085 rfl (lv_at hl 3 rfl) ?_
  refine lv_iconst (v := (2 : Int32)) hx hb dL_law_1086 (by decide) ?_
  refine lv_iadd hx hb dL_law_1087 ?_
  refine va_sld hx hb hX hbl hbA hS hin2 dL_law_1088 ?_
  obtain ⟨r, hc1, hc2, hs2⟩ := hs_share k MC MM nS nL (xs (nI (6 * k) + (1 : Int32)).toNatClampNeg) (xs (nI (6 * k) + (2 : Int32)).toNatClampNeg) hk64 hs
  refine lw_cCI hx hb hml hown hts hK hZ hS hC hM hMb [.int (xs (nI (6 * k) + (1 : Int32)).toNatClampNeg), .int (xs (nI (6 * k) + (2 : Int32)).toNatClampNeg)] (mX11_share (l := l) ZC_ok (xs (nI (6 * k) + (1 : Int32)).toNatClampNeg) (xs (nI (6 * k) + (2 : Int32)).toNatClampNeg) MC r hc1) rfl pmX11_share tw1055 ⟨Nat.le_of_ble_eq_true rfl, Nat.le_of_ble_eq_true rfl⟩ rfl hl.1 (Nat.le_of_ble_eq_true rfl) ⟨(show 82 + 20 * k + 0 ≤ 600000 by omega), (show 9444 + 120 * k + 0 ≤ 7302250 by omega)⟩ rfl dL_law_1089 (fun H locs hC hM hS => ?_)
  refine lv_aload_n hx hb dL_law_1092 rfl (lv_at hl 2 rfl) ?_
  refine lv_aload_n hx hb dL_law_1093 rfl (lv_at hl 0 rfl) ?_
  refine lv_iload_n hx hb dL_law_1094 rfl (lv_at hl 3 rfl) ?_
  refine lv_iconst (v := (1 : Int32)) hx hb dL_law_1095 (by decide) ?_
  refine lv_iadd hx hb dL_law_1096 ?_
  refine va_sld hx hb hX hbl hbA hS hin1 dL_law_1097 ?_
  refine lv_aload_n hx hb dL_law_1098 rfl (lv_at hl 0 rfl) ?_
  refine lv_iload_n hx hb dL_law_1099 rfl (lv_at hl 3 rfl) ?_
  refine lv_iconst (v := (2 : Int32)) hx hb dL_law_1100 (by decide) ?_
  refine lv_iadd hx hb dL_law_1101 ?_
  refine va_sld hx hb hX hbl hbA hS hin2 dL_law_1102 ?_
  refine lw_cMI hx hb hml hown hts hK hZ hS hC hM hMb [.int (xs (nI (6 * k) + (1 : Int32)).toNatClampNeg), .int (xs (nI (6 * k) + (2 : Int32)).toNatClampNeg)] (mX12_share (l := l) ZT_ok (xs (nI (6 * k) + (1 : Int32)).toNatClampNeg) (xs (nI (6 * k) + (2 : Int32)).toNatClampNeg) MM r hc2) rfl pmX12_share tw1679 ⟨Nat.le_of_ble_eq_true rfl, Nat.le_of_ble_eq_true rfl⟩ rfl hl.1 (Nat.le_of_ble_eq_true rfl) ⟨(show 82 + 20 * k + 0 ≤ 600000 by omega), (show 9444 + 120 * k + 0 ≤ 7302250 by omega)⟩ rfl dL_law_1103 (fun H locs hC hM hS => ?_)
  refine lv_icmp_eq (tgt := 1594) hx hb dL_law_1106 (by decide) (fun _ => ?_) (fun hc => absurd rfl hc)
  refine lv_iinc (v := nI (6 * (k + 1))) (lv' := [(3, .int (nI (6 * (k + 1)))), (0, .ref b), (1, .ref (adC 11 0)), (2, .ref (adM 12 0))]) hx hb dL_law_1594 hl (k := 3) rfl (nI_add (6 * k) 6) (by decide) rfl (fun ls hl => ?_)
  refine lv_goto (tgt := 18) hx hb dL_law_1597 (by decide) ?_
  refine W.widen (k := 82 + 20 * (k + 1)) (n := 9444 + 120 * (k + 1)) (by omega) (by omega) ?_
  exact ih MC MM nS nL adC _ _ _ hs2 hC hM hS (lv_sub hl [1, 2, 3, 0] rfl)
set_option maxHeartbeats 4000000 in
set_option maxRecDepth 100000 in
theorem law_case28 {p : Program} {l : Launch} {e : Env} {s : State} {m : MethodId} {below : List Frame} {meth : Method} {c : Code} {D : va_G} {cy : Nat → ClassId} {K : KC} {adM : Nat → Nat → Nat} {b L : Nat} {xs : Nat → Int32} {Sim : Nat → Mem → Mem → Nat → Nat → Prop} (C0 : LwC p l e s m below meth c D cy K adM b L xs) (hs_hands : ∀ (k : Nat) (MC MM : Mem) (nS nL : Nat) (a1 : Int32) (a2 : Int32), k < 64 → Sim k MC MM nS nL → ∃ (r : Int32) (MC' : Mem) (MM' : Mem), fX11_hands a1 a2 MC = some (r, MC') ∧ fX12_hands a1 a2 MM = some (r, MM') ∧ Sim (k + 1) MC' MM' nS nL) (k : Nat) (hk64 : k < 64) (hin : ∀ j : Nat, j < 6 → vp_in (nI (6 * k) + nI j) L) (ih : LwG p l e s m below meth c D cy adM b Sim 18 (k + 1)) : LwG p l e s m below meth c D cy adM b Sim 1111 k := by
  obtain ⟨hx, hb, hml, hown, hts, hX, hbl, hK, hZ, hMb⟩ := C0
  intro MC MM nS nL adC H locs ls hs hC hM hS hl
  have hbA : ¬ (fun q : Nat => s.heap.size ≤ q) b := Nat.not_le.mpr hbl
  have hin1 : vp_in (nI (6 * k) + (1 : Int32)) L := hin 1 (by decide)
  have hin2 : vp_in (nI (6 * k) + (2 : Int32)) L := hin 2 (by decide)
  have hin3 : vp_in (nI (6 * k) + (3 : Int32)) L := hin 3 (by decide)
  have hin4 : vp_in (nI (6 * k) + (4 : Int32)) L := hin 4 (by decide)
  have hin5 : vp_in (nI (6 * k) + (5 : Int32)) L := hin 5 (by decide)
  refine lv_aload_n hx hb dL_law_1111 rfl (lv_at hl 1 rfl) ?_
  refine lv_aload_n hx hb dL_law_1112 rfl (lv_at hl 0 rfl) ?_
  refine lv_iload_n hx hb dL_law_1113 rfl (lv_at hl 3 rfl) ?_
  refine lv_iconst (v := (1 : Int32)) hx hb dL_law_1114 (by decide) ?_
  refine lv_iadd hx hb dL_law_1115 ?_
  refine va_sld hx hb hX hbl hbA hS hin1 dL_law_1116 ?_
  refine lv_aload_n hx hb dL_law_1117 rfl (lv_at hl 0 rfl) ?_
  refine lv_iload_n hx hb dL_law_1118 rfl (lv_at hl 3 rfl) ?_
  refine lv_iconst (v := (2 : Int32)) hx hb dL_law_1119 (by decide) ?_
  refine lv_iadd hx hb dL_law_1120 ?_
  refine va_sld hx hb hX hbl hbA hS hin2 dL_law_1121 ?_
  obtain ⟨r, MC', MM', hc1, hc2, hs2⟩ := hs_hands k MC MM nS nL (xs (nI (6 * k) + (1 : Int32)).toNatClampNeg) (xs (nI (6 * k) + (2 : Int32)).toNatClampNeg) hk64 hs
  refine lw_cCI hx hb hml hown hts hK hZ hS hC hM hMb [.int (xs (nI (6 * k) + (1 : Int32)).toNatClampNeg), .int (xs (nI (6 * k) + (2 : Int32)).toNatClampNeg)] (mX11_hands (l := l) ZC_ok (xs (nI (6 * k) + (1 : Int32)).toNatClampNeg) (xs (nI (6 * k) + (2 : Int32)).toNatClampNeg) MC r MC' hc1) rfl pmX11_hands tw1063 ⟨Nat.le_of_ble_eq_true rfl, Nat.le_of_ble_eq_true rfl⟩ rfl hl.1 (Nat.le_of_ble_eq_true rfl) ⟨(show 82 + 20 * k + 0 ≤ 600000 by omega), (show 9444 + 120 * k + 0 ≤ 7302250 by omega)⟩ rfl dL_law_1122 (fun H locs hC hM hS => ?_)
  refine lv_aload_n hx hb dL_law_1125 rfl (lv_at hl 2 rfl) ?_
  refine lv_aload_n hx hb dL_law_1126 rfl (lv_at hl 0 rfl) ?_
  refine lv_iload_n hx hb dL_law_1127 rfl (lv_at hl 3 rfl) ?_
  refine lv_iconst (v := (1 : Int32)) hx hb dL_law_1128 (by decide) ?_
  refine lv_iadd hx hb dL_law_1129 ?_
  refine va_sld hx hb hX hbl hbA hS hin1 dL_law_1130 ?_
  refine lv_aload_n hx hb dL_law_1131 rfl (lv_at hl 0 rfl) ?_
  refine lv_iload_n hx hb dL_law_1132 rfl (lv_at hl 3 rfl) ?_
  refine lv_iconst (v := (2 : Int32)) hx hb dL_law_1133 (by decide) ?_
  refine lv_iadd hx hb dL_law_1134 ?_
  refine va_sld hx hb hX hbl hbA hS hin2 dL_law_1135 ?_
  refine lw_cMI hx hb hml hown hts hK hZ hS hC hM hMb [.int (xs (nI (6 * k) + (1 : Int32)).toNatClampNeg), .int (xs (nI (6 * k) + (2 : Int32)).toNatClampNeg)] (mX12_hands (l := l) ZT_ok (xs (nI (6 * k) + (1 : Int32)).toNatClampNeg) (xs (nI (6 * k) + (2 : Int32)).toNatClampNeg) MM r MM' hc2) rfl pmX12_hands tw1691 ⟨Nat.le_of_ble_eq_true rfl, Nat.le_of_ble_eq_true rfl⟩ rfl hl.1 (Nat.le_of_ble_eq_true rfl) ⟨(show 82 + 20 * k + 0 ≤ 600000 by omega), (show 9444 + 120 * k + 0 ≤ 7302250 by omega)⟩ rfl dL_law_1136 (fun H locs hC hM hS => ?_)
  refine lv_icmp_eq (tgt := 1594) hx hb dL_law_1139 (by decide) (fun _ => ?_) (fun hc => absurd rfl hc)
  refine lv_iinc (v := nI (6 * (k + 1))) (lv' := [(3, .int (nI (6 * (k + 1)))), (0, .ref b), (1, .ref (adC 11 0)), (2, .ref (adM 12 0))]) hx hb dL_law_1594 hl (k := 3) rfl (nI_add (6 * k) 6) (by decide) rfl (fun ls hl => ?_)
  refine lv_goto (tgt := 18) hx hb dL_law_1597 (by decide) ?_
  refine W.widen (k := 82 + 20 * (k + 1)) (n := 9444 + 120 * (k + 1)) (by omega) (by omega) ?_
  exact ih MC' MM' nS nL adC _ _ _ hs2 hC hM hS (lv_sub hl [1, 2, 3, 0] rfl)
set_option maxHeartbeats 4000000 in
set_option maxRecDepth 100000 in
theorem law_case29 {p : Program} {l : Launch} {e : Env} {s : State} {m : MethodId} {below : List Frame} {meth : Method} {c : Code} {D : va_G} {cy : Nat → ClassId} {K : KC} {adM : Nat → Nat → Nat} {b L : Nat} {xs : Nat → Int32} {Sim : Nat → Mem → Mem → Nat → Nat → Prop} (C0 : LwC p l e s m below meth c D cy K adM b L xs) (hs_fair : ∀ (k : Nat) (MC MM : Mem) (nS nL : Nat) (a1 : Int32), k < 64 → Sim k MC MM nS nL → ∃ (r : Int32), fX11_fair a1 MC = some r ∧ fX12_fair a1 MM = some r ∧ Sim (k + 1) MC MM nS nL) (k : Nat) (hk64 : k < 64) (hin : ∀ j : Nat, j < 6 → vp_in (nI (6 * k) + nI j) L) (ih : LwG p l e s m below meth c D cy adM b Sim 18 (k + 1)) : LwG p l e s m below meth c D cy adM b Sim 1144 k := by
  obtain ⟨hx, hb, hml, hown, hts, hX, hbl, hK, hZ, hMb⟩ := C0
  intro MC MM nS nL adC H locs ls hs hC hM hS hl
  have hbA : ¬ (fun q : Nat => s.heap.size ≤ q) b := Nat.not_le.mpr hbl
  have hin1 : vp_in (nI (6 * k) + (1 : Int32)) L := hin 1 (by decide)
  have hin2 : vp_in (nI (6 * k) + (2 : Int32)) L := hin 2 (by decide)
  have hin3 : vp_in (nI (6 * k) + (3 : Int32)) L := hin 3 (by decide)
  have hin4 : vp_in (nI (6 * k) + (4 : Int32)) L := hin 4 (by decide)
  have hin5 : vp_in (nI (6 * k) + (5 : Int32)) L := hin 5 (by decide)
  refine lv_aload_n hx hb dL_law_1144 rfl (lv_at hl 1 rfl) ?_
  refine lv_aload_n hx hb dL_law_1145 rfl (lv_at hl 0 rfl) ?_
  refine lv_iload_n hx hb dL_law_1146 rfl (lv_at hl 3 rfl) ?_
  refine lv_iconst (v := (1 : Int32)) hx hb dL_law_1147 (by decide) ?_
  refine lv_iadd hx hb dL_law_1148 ?_
  refine va_sld hx hb hX hbl hbA hS hin1 dL_law_1149 ?_
  obtain ⟨r, hc1, hc2, hs2⟩ := hs_fair k MC MM nS nL (xs (nI (6 * k) + (1 : Int32)).toNatClampNeg) hk64 hs
  refine lw_cCI hx hb hml hown hts hK hZ hS hC hM hMb [.int (xs (nI (6 * k) + (1 : Int32)).toNatClampNeg)] (mX11_fair (l := l) ZC_ok (xs (nI (6 * k) + (1 : Int32)).toNatClampNeg) MC r hc1) rfl pmX11_fair tw1085 ⟨Nat.le_of_ble_eq_true rfl, Nat.le_of_ble_eq_true rfl⟩ rfl hl.1 (Nat.le_of_ble_eq_true rfl) ⟨(show 82 + 20 * k + 0 ≤ 600000 by omega), (show 9444 + 120 * k + 0 ≤ 7302250 by omega)⟩ rfl dL_law_1150 (fun H locs hC hM hS => ?_)
  refine lv_aload_n hx hb dL_law_1153 rfl (lv_at hl 2 rfl) ?_
  refine lv_aload_n hx hb dL_law_1154 rfl (lv_at hl 0 rfl) ?_
  refine lv_iload_n hx hb dL_law_1155 rfl (lv_at hl 3 rfl) ?_
  refine lv_iconst (v := (1 : Int32)) hx hb dL_law_1156 (by decide) ?_
  refine lv_iadd hx hb dL_law_1157 ?_
  refine va_sld hx hb hX hbl hbA hS hin1 dL_law_1158 ?_
  refine lw_cMI hx hb hml hown hts hK hZ hS hC hM hMb [.int (xs (nI (6 * k) + (1 : Int32)).toNatClampNeg)] (mX12_fair (l := l) ZT_ok (xs (nI (6 * k) + (1 : Int32)).toNatClampNeg) MM r hc2) rfl pmX12_fair tw1687 ⟨Nat.le_of_ble_eq_true rfl, Nat.le_of_ble_eq_true rfl⟩ rfl hl.1 (Nat.le_of_ble_eq_true rfl) ⟨(show 82 + 20 * k + 0 ≤ 600000 by omega), (show 9444 + 120 * k + 0 ≤ 7302250 by omega)⟩ rfl dL_law_1159 (fun H locs hC hM hS => ?_)
  refine lv_icmp_eq (tgt := 1594) hx hb dL_law_1162 (by decide) (fun _ => ?_) (fun hc => absurd rfl hc)
  refine lv_iinc (v := nI (6 * (k + 1))) (lv' := [(3, .int (nI (6 * (k + 1)))), (0, .ref b), (1, .ref (adC 11 0)), (2, .ref (adM 12 0))]) hx hb dL_law_1594 hl (k := 3) rfl (nI_add (6 * k) 6) (by decide) rfl (fun ls hl => ?_)
  refine lv_goto (tgt := 18) hx hb dL_law_1597 (by decide) ?_
  refine W.widen (k := 82 + 20 * (k + 1)) (n := 9444 + 120 * (k + 1)) (by omega) (by omega) ?_
  exact ih MC MM nS nL adC _ _ _ hs2 hC hM hS (lv_sub hl [1, 2, 3, 0] rfl)
set_option maxHeartbeats 4000000 in
set_option maxRecDepth 100000 in
theorem law_case30 {p : Program} {l : Launch} {e : Env} {s : State} {m : MethodId} {below : List Frame} {meth : Method} {c : Code} {D : va_G} {cy : Nat → ClassId} {K : KC} {adM : Nat → Nat → Nat} {b L : Nat} {xs : Nat → Int32} {Sim : Nat → Mem → Mem → Nat → Nat → Prop} (C0 : LwC p l e s m below meth c D cy K adM b L xs) (hs_span : ∀ (k : Nat) (MC MM : Mem) (nS nL : Nat) (a1 : Int32) (a2 : Int32), k < 64 → Sim k MC MM nS nL → ∃ (r : Int32), fX11_span a1 a2 MC = some r ∧ fX12_span a1 a2 MM = some r ∧ Sim (k + 1) MC MM nS nL) (k : Nat) (hk64 : k < 64) (hin : ∀ j : Nat, j < 6 → vp_in (nI (6 * k) + nI j) L) (ih : LwG p l e s m below meth c D cy adM b Sim 18 (k + 1)) : LwG p l e s m below meth c D cy adM b Sim 1167 k := by
  obtain ⟨hx, hb, hml, hown, hts, hX, hbl, hK, hZ, hMb⟩ := C0
  intro MC MM nS nL adC H locs ls hs hC hM hS hl
  have hbA : ¬ (fun q : Nat => s.heap.size ≤ q) b := Nat.not_le.mpr hbl
  have hin1 : vp_in (nI (6 * k) + (1 : Int32)) L := hin 1 (by decide)
  have hin2 : vp_in (nI (6 * k) + (2 : Int32)) L := hin 2 (by decide)
  have hin3 : vp_in (nI (6 * k) + (3 : Int32)) L := hin 3 (by decide)
  have hin4 : vp_in (nI (6 * k) + (4 : Int32)) L := hin 4 (by decide)
  have hin5 : vp_in (nI (6 * k) + (5 : Int32)) L := hin 5 (by decide)
  refine lv_aload_n hx hb dL_law_1167 rfl (lv_at hl 1 rfl) ?_
  refine lv_aload_n hx hb dL_law_1168 rfl (lv_at hl 0 rfl) ?_
  refine lv_iload_n hx hb dL_law_1169 rfl (lv_at hl 3 rfl) ?_
  refine lv_iconst (v := (1 : Int32)) hx hb dL_law_1170 (by decide) ?_
  refine lv_iadd hx hb dL_law_1171 ?_
  refine va_sld hx hb hX hbl hbA hS hin1 dL_law_1172 ?_
  refine lv_aload_n hx hb dL_law_1173 rfl (lv_at hl 0 rfl) ?_
  refine lv_iload_n hx hb dL_law_1174 rfl (lv_at hl 3 rfl) ?_
  refine lv_iconst (v := (2 : Int32)) hx hb dL_law_1175 (by decide) ?_
  refine lv_iadd hx hb dL_law_1176 ?_
  refine va_sld hx hb hX hbl hbA hS hin2 dL_law_1177 ?_
  obtain ⟨r, hc1, hc2, hs2⟩ := hs_span k MC MM nS nL (xs (nI (6 * k) + (1 : Int32)).toNatClampNeg) (xs (nI (6 * k) + (2 : Int32)).toNatClampNeg) hk64 hs
  refine lw_cCI hx hb hml hown hts hK hZ hS hC hM hMb [.int (xs (nI (6 * k) + (1 : Int32)).toNatClampNeg), .int (xs (nI (6 * k) + (2 : Int32)).toNatClampNeg)] (mX11_span (l := l) ZC_ok (xs (nI (6 * k) + (1 : Int32)).toNatClampNeg) (xs (nI (6 * k) + (2 : Int32)).toNatClampNeg) MC r hc1) rfl pmX11_span tw1089 ⟨Nat.le_of_ble_eq_true rfl, Nat.le_of_ble_eq_true rfl⟩ rfl hl.1 (Nat.le_of_ble_eq_true rfl) ⟨(show 82 + 20 * k + 0 ≤ 600000 by omega), (show 9444 + 120 * k + 0 ≤ 7302250 by omega)⟩ rfl dL_law_1178 (fun H locs hC hM hS => ?_)
  refine lv_aload_n hx hb dL_law_1181 rfl (lv_at hl 2 rfl) ?_
  refine lv_aload_n hx hb dL_law_1182 rfl (lv_at hl 0 rfl) ?_
  refine lv_iload_n hx hb dL_law_1183 rfl (lv_at hl 3 rfl) ?_
  refine lv_iconst (v := (1 : Int32)) hx hb dL_law_1184 (by decide) ?_
  refine lv_iadd hx hb dL_law_1185 ?_
  refine va_sld hx hb hX hbl hbA hS hin1 dL_law_1186 ?_
  refine lv_aload_n hx hb dL_law_1187 rfl (lv_at hl 0 rfl) ?_
  refine lv_iload_n hx hb dL_law_1188 rfl (lv_at hl 3 rfl) ?_
  refine lv_iconst (v := (2 : Int32)) hx hb dL_law_1189 (by decide) ?_
  refine lv_iadd hx hb dL_law_1190 ?_
  refine va_sld hx hb hX hbl hbA hS hin2 dL_law_1191 ?_
  refine lw_cMI hx hb hml hown hts hK hZ hS hC hM hMb [.int (xs (nI (6 * k) + (1 : Int32)).toNatClampNeg), .int (xs (nI (6 * k) + (2 : Int32)).toNatClampNeg)] (mX12_span (l := l) ZT_ok (xs (nI (6 * k) + (1 : Int32)).toNatClampNeg) (xs (nI (6 * k) + (2 : Int32)).toNatClampNeg) MM r hc2) rfl pmX12_span tw1699 ⟨Nat.le_of_ble_eq_true rfl, Nat.le_of_ble_eq_true rfl⟩ rfl hl.1 (Nat.le_of_ble_eq_true rfl) ⟨(show 82 + 20 * k + 0 ≤ 600000 by omega), (show 9444 + 120 * k + 0 ≤ 7302250 by omega)⟩ rfl dL_law_1192 (fun H locs hC hM hS => ?_)
  refine lv_icmp_eq (tgt := 1594) hx hb dL_law_1195 (by decide) (fun _ => ?_) (fun hc => absurd rfl hc)
  refine lv_iinc (v := nI (6 * (k + 1))) (lv' := [(3, .int (nI (6 * (k + 1)))), (0, .ref b), (1, .ref (adC 11 0)), (2, .ref (adM 12 0))]) hx hb dL_law_1594 hl (k := 3) rfl (nI_add (6 * k) 6) (by decide) rfl (fun ls hl => ?_)
  refine lv_goto (tgt := 18) hx hb dL_law_1597 (by decide) ?_
  refine W.widen (k := 82 + 20 * (k + 1)) (n := 9444 + 120 * (k + 1)) (by omega) (by omega) ?_
  exact ih MC MM nS nL adC _ _ _ hs2 hC hM hS (lv_sub hl [1, 2, 3, 0] rfl)
set_option maxHeartbeats 4000000 in
set_option maxRecDepth 100000 in
theorem law_case31 {p : Program} {l : Launch} {e : Env} {s : State} {m : MethodId} {below : List Frame} {meth : Method} {c : Code} {D : va_G} {cy : Nat → ClassId} {K : KC} {adM : Nat → Nat → Nat} {b L : Nat} {xs : Nat → Int32} {Sim : Nat → Mem → Mem → Nat → Nat → Prop} (C0 : LwC p l e s m below meth c D cy K adM b L xs) (hs_undo : ∀ (k : Nat) (MC MM : Mem) (nS nL : Nat) , k < 64 → Sim k MC MM nS nL → ∃ (r : Int32) (MC' : Mem) (MM' : Mem), fX11_undo  MC = some (r, MC') ∧ fX12_undo  MM = some (r, MM') ∧ Sim (k + 1) MC' MM' nS nL) (k : Nat) (hk64 : k < 64) (hin : ∀ j : Nat, j < 6 → vp_in (nI (6 * k) + nI j) L) (ih : LwG p l e s m below meth c D cy adM b Sim 18 (k + 1)) : LwG p l e s m below meth c D cy adM b Sim 1200 k := by
  obtain ⟨hx, hb, hml, hown, hts, hX, hbl, hK, hZ, hMb⟩ := C0
  intro MC MM nS nL adC H locs ls hs hC hM hS hl
  have hbA : ¬ (fun q : Nat => s.heap.size ≤ q) b := Nat.not_le.mpr hbl
  have hin1 : vp_in (nI (6 * k) + (1 : Int32)) L := hin 1 (by decide)
  have hin2 : vp_in (nI (6 * k) + (2 : Int32)) L := hin 2 (by decide)
  have hin3 : vp_in (nI (6 * k) + (3 : Int32)) L := hin 3 (by decide)
  have hin4 : vp_in (nI (6 * k) + (4 : Int32)) L := hin 4 (by decide)
  have hin5 : vp_in (nI (6 * k) + (5 : Int32)) L := hin 5 (by decide)
  refine lv_aload_n hx hb dL_law_1200 rfl (lv_at hl 1 rfl) ?_
  obtain ⟨r, MC', MM', hc1, hc2, hs2⟩ := hs_undo k MC MM nS nL  hk64 hs
  refine lw_cCI hx hb hml hown hts hK hZ hS hC hM hMb [] (mX11_undo (l := l) ZC_ok  MC r MC' hc1) rfl pmX11_undo tw1097 ⟨Nat.le_of_ble_eq_true rfl, Nat.le_of_ble_eq_true rfl⟩ rfl hl.1 (Nat.le_of_ble_eq_true rfl) ⟨(show 82 + 20 * k + 0 ≤ 600000 by omega), (show 9444 + 120 * k + 0 ≤ 7302250 by omega)⟩ rfl dL_law_1201 (fun H locs hC hM hS => ?_)
  refine lv_aload_n hx hb dL_law_1204 rfl (lv_at hl 2 rfl) ?_
  refine lw_cMI hx hb hml hown hts hK hZ hS hC hM hMb [] (mX12_undo (l := l) ZT_ok  MM r MM' hc2) rfl pmX12_undo tw1496 ⟨Nat.le_of_ble_eq_true rfl, Nat.le_of_ble_eq_true rfl⟩ rfl hl.1 (Nat.le_of_ble_eq_true rfl) ⟨(show 82 + 20 * k + 0 ≤ 600000 by omega), (show 9444 + 120 * k + 0 ≤ 7302250 by omega)⟩ rfl dL_law_1205 (fun H locs hC hM hS => ?_)
  refine lv_icmp_eq (tgt := 1594) hx hb dL_law_1208 (by decide) (fun _ => ?_) (fun hc => absurd rfl hc)
  refine lv_iinc (v := nI (6 * (k + 1))) (lv' := [(3, .int (nI (6 * (k + 1)))), (0, .ref b), (1, .ref (adC 11 0)), (2, .ref (adM 12 0))]) hx hb dL_law_1594 hl (k := 3) rfl (nI_add (6 * k) 6) (by decide) rfl (fun ls hl => ?_)
  refine lv_goto (tgt := 18) hx hb dL_law_1597 (by decide) ?_
  refine W.widen (k := 82 + 20 * (k + 1)) (n := 9444 + 120 * (k + 1)) (by omega) (by omega) ?_
  exact ih MC' MM' nS nL adC _ _ _ hs2 hC hM hS (lv_sub hl [1, 2, 3, 0] rfl)
set_option maxHeartbeats 4000000 in
set_option maxRecDepth 100000 in
theorem law_case32 {p : Program} {l : Launch} {e : Env} {s : State} {m : MethodId} {below : List Frame} {meth : Method} {c : Code} {D : va_G} {cy : Nat → ClassId} {K : KC} {adM : Nat → Nat → Nat} {b L : Nat} {xs : Nat → Int32} {Sim : Nat → Mem → Mem → Nat → Nat → Prop} (C0 : LwC p l e s m below meth c D cy K adM b L xs) (hs_redo : ∀ (k : Nat) (MC MM : Mem) (nS nL : Nat) , k < 64 → Sim k MC MM nS nL → ∃ (r : Int32) (MC' : Mem) (MM' : Mem), fX11_redo  MC = some (r, MC') ∧ fX12_redo  MM = some (r, MM') ∧ Sim (k + 1) MC' MM' nS nL) (k : Nat) (hk64 : k < 64) (hin : ∀ j : Nat, j < 6 → vp_in (nI (6 * k) + nI j) L) (ih : LwG p l e s m below meth c D cy adM b Sim 18 (k + 1)) : LwG p l e s m below meth c D cy adM b Sim 1213 k := by
  obtain ⟨hx, hb, hml, hown, hts, hX, hbl, hK, hZ, hMb⟩ := C0
  intro MC MM nS nL adC H locs ls hs hC hM hS hl
  have hbA : ¬ (fun q : Nat => s.heap.size ≤ q) b := Nat.not_le.mpr hbl
  have hin1 : vp_in (nI (6 * k) + (1 : Int32)) L := hin 1 (by decide)
  have hin2 : vp_in (nI (6 * k) + (2 : Int32)) L := hin 2 (by decide)
  have hin3 : vp_in (nI (6 * k) + (3 : Int32)) L := hin 3 (by decide)
  have hin4 : vp_in (nI (6 * k) + (4 : Int32)) L := hin 4 (by decide)
  have hin5 : vp_in (nI (6 * k) + (5 : Int32)) L := hin 5 (by decide)
  refine lv_aload_n hx hb dL_law_1213 rfl (lv_at hl 1 rfl) ?_
  obtain ⟨r, MC', MM', hc1, hc2, hs2⟩ := hs_redo k MC MM nS nL  hk64 hs
  refine lw_cCI hx hb hml hown hts hK hZ hS hC hM hMb [] (mX11_redo (l := l) ZC_ok  MC r MC' hc1) rfl pmX11_redo tw1105 ⟨Nat.le_of_ble_eq_true rfl, Nat.le_of_ble_eq_true rfl⟩ rfl hl.1 (Nat.le_of_ble_eq_true rfl) ⟨(show 82 + 20 * k + 0 ≤ 600000 by omega), (show 9444 + 120 * k + 0 ≤ 7302250 by omega)⟩ rfl dL_law_1214 (fun H locs hC hM hS => ?_)
  refine lv_aload_n hx hb dL_law_1217 rfl (lv_at hl 2 rfl) ?_
  refine lw_cMI hx hb hml hown hts hK hZ hS hC hM hMb [] (mX12_redo (l := l) ZT_ok  MM r MM' hc2) rfl pmX12_redo tw1504 ⟨Nat.le_of_ble_eq_true rfl, Nat.le_of_ble_eq_true rfl⟩ rfl hl.1 (Nat.le_of_ble_eq_true rfl) ⟨(show 82 + 20 * k + 0 ≤ 600000 by omega), (show 9444 + 120 * k + 0 ≤ 7302250 by omega)⟩ rfl dL_law_1218 (fun H locs hC hM hS => ?_)
  refine lv_icmp_eq (tgt := 1594) hx hb dL_law_1221 (by decide) (fun _ => ?_) (fun hc => absurd rfl hc)
  refine lv_iinc (v := nI (6 * (k + 1))) (lv' := [(3, .int (nI (6 * (k + 1)))), (0, .ref b), (1, .ref (adC 11 0)), (2, .ref (adM 12 0))]) hx hb dL_law_1594 hl (k := 3) rfl (nI_add (6 * k) 6) (by decide) rfl (fun ls hl => ?_)
  refine lv_goto (tgt := 18) hx hb dL_law_1597 (by decide) ?_
  refine W.widen (k := 82 + 20 * (k + 1)) (n := 9444 + 120 * (k + 1)) (by omega) (by omega) ?_
  exact ih MC' MM' nS nL adC _ _ _ hs2 hC hM hS (lv_sub hl [1, 2, 3, 0] rfl)
set_option maxHeartbeats 4000000 in
set_option maxRecDepth 100000 in
theorem law_case33 {p : Program} {l : Launch} {e : Env} {s : State} {m : MethodId} {below : List Frame} {meth : Method} {c : Code} {D : va_G} {cy : Nat → ClassId} {K : KC} {adM : Nat → Nat → Nat} {b L : Nat} {xs : Nat → Int32} {Sim : Nat → Mem → Mem → Nat → Nat → Prop} (C0 : LwC p l e s m below meth c D cy K adM b L xs) (hs_act : ∀ (k : Nat) (MC MM : Mem) (nS nL : Nat) (a1 : Int32) (a2 : Int32) (a3 : Int32), k < 64 → Sim k MC MM nS nL → ∃ (r : Int32) (MC' : Mem) (MM' : Mem), fX11_act a1 a2 a3 MC = some (r, MC') ∧ fX12_act a1 a2 a3 MM = some (r, MM') ∧ Sim (k + 1) MC' MM' nS nL) (k : Nat) (hk64 : k < 64) (hin : ∀ j : Nat, j < 6 → vp_in (nI (6 * k) + nI j) L) (ih : LwG p l e s m below meth c D cy adM b Sim 18 (k + 1)) : LwG p l e s m below meth c D cy adM b Sim 1226 k := by
  obtain ⟨hx, hb, hml, hown, hts, hX, hbl, hK, hZ, hMb⟩ := C0
  intro MC MM nS nL adC H locs ls hs hC hM hS hl
  have hbA : ¬ (fun q : Nat => s.heap.size ≤ q) b := Nat.not_le.mpr hbl
  have hin1 : vp_in (nI (6 * k) + (1 : Int32)) L := hin 1 (by decide)
  have hin2 : vp_in (nI (6 * k) + (2 : Int32)) L := hin 2 (by decide)
  have hin3 : vp_in (nI (6 * k) + (3 : Int32)) L := hin 3 (by decide)
  have hin4 : vp_in (nI (6 * k) + (4 : Int32)) L := hin 4 (by decide)
  have hin5 : vp_in (nI (6 * k) + (5 : Int32)) L := hin 5 (by decide)
  refine lv_aload_n hx hb dL_law_1226 rfl (lv_at hl 1 rfl) ?_
  refine lv_aload_n hx hb dL_law_1227 rfl (lv_at hl 0 rfl) ?_
  refine lv_iload_n hx hb dL_law_1228 rfl (lv_at hl 3 rfl) ?_
  refine lv_iconst (v := (1 : Int32)) hx hb dL_law_1229 (by decide) ?_
  refine lv_iadd hx hb dL_law_1230 ?_
  refine va_sld hx hb hX hbl hbA hS hin1 dL_law_1231 ?_
  refine lv_aload_n hx hb dL_law_1232 rfl (lv_at hl 0 rfl) ?_
  refine lv_iload_n hx hb dL_law_1233 rfl (lv_at hl 3 rfl) ?_
  refine lv_iconst (v := (2 : Int32)) hx hb dL_law_1234 (by decide) ?_
  refine lv_iadd hx hb dL_law_1235 ?_
  refine va_sld hx hb hX hbl hbA hS hin2 dL_law_1236 ?_
  refine lv_aload_n hx hb dL_law_1237 rfl (lv_at hl 0 rfl) ?_
  refine lv_iload_n hx hb dL_law_1238 rfl (lv_at hl 3 rfl) ?_
  refine lv_iconst (v := (3 : Int32)) hx hb dL_law_1239 (by decide) ?_
  refine lv_iadd hx hb dL_law_1240 ?_
  refine va_sld hx hb hX hbl hbA hS hin3 dL_law_1241 ?_
  obtain ⟨r, MC', MM', hc1, hc2, hs2⟩ := hs_act k MC MM nS nL (xs (nI (6 * k) + (1 : Int32)).toNatClampNeg) (xs (nI (6 * k) + (2 : Int32)).toNatClampNeg) (xs (nI (6 * k) + (3 : Int32)).toNatClampNeg) hk64 hs
  refine lw_cCI hx hb hml hown hts hK hZ hS hC hM hMb [.int (xs (nI (6 * k) + (1 : Int32)).toNatClampNeg), .int (xs (nI (6 * k) + (2 : Int32)).toNatClampNeg), .int (xs (nI (6 * k) + (3 : Int32)).toNatClampNeg)] (mX11_act (l := l) ZC_ok (xs (nI (6 * k) + (1 : Int32)).toNatClampNeg) (xs (nI (6 * k) + (2 : Int32)).toNatClampNeg) (xs (nI (6 * k) + (3 : Int32)).toNatClampNeg) MC r MC' hc1) rfl pmX11_act tw1113 ⟨Nat.le_of_ble_eq_true rfl, Nat.le_of_ble_eq_true rfl⟩ rfl hl.1 (Nat.le_of_ble_eq_true rfl) ⟨(show 82 + 20 * k + 0 ≤ 600000 by omega), (show 9444 + 120 * k + 0 ≤ 7302250 by omega)⟩ rfl dL_law_1242 (fun H locs hC hM hS => ?_)
  refine lv_aload_n hx hb dL_law_1245 rfl (lv_at hl 2 rfl) ?_
  refine lv_aload_n hx hb dL_law_1246 rfl (lv_at hl 0 rfl) ?_
  refine lv_iload_n hx hb dL_law_1247 rfl (lv_at hl 3 rfl) ?_
  refine lv_iconst (v := (1 : Int32)) hx hb dL_law_1248 (by decide) ?_
  refine lv_iadd hx hb dL_law_1249 ?_
  refine va_sld hx hb hX hbl hbA hS hin1 dL_law_1250 ?_
  refine lv_aload_n hx hb dL_law_1251 rfl (lv_at hl 0 rfl) ?_
  refine lv_iload_n hx hb dL_law_1252 rfl (lv_at hl 3 rfl) ?_
  refine lv_iconst (v := (2 : Int32)) hx hb dL_law_1253 (by decide) ?_
  refine lv_iadd hx hb dL_law_1254 ?_
  refine va_sld hx hb hX hbl hbA hS hin2 dL_law_1255 ?_
  refine lv_aload_n hx hb dL_law_1256 rfl (lv_at hl 0 rfl) ?_
  refine lv_iload_n hx hb dL_law_1257 rfl (lv_at hl 3 rfl) ?_
  refine lv_iconst (v := (3 : Int32)) hx hb dL_law_1258 (by decide) ?_
  refine lv_iadd hx hb dL_law_1259 ?_
  refine va_sld hx hb hX hbl hbA hS hin3 dL_law_1260 ?_
  refine lw_cMI hx hb hml hown hts hK hZ hS hC hM hMb [.int (xs (nI (6 * k) + (1 : Int32)).toNatClampNeg), .int (xs (nI (6 * k) + (2 : Int32)).toNatClampNeg), .int (xs (nI (6 * k) + (3 : Int32)).toNatClampNeg)] (mX12_act (l := l) ZT_ok (xs (nI (6 * k) + (1 : Int32)).toNatClampNeg) (xs (nI (6 * k) + (2 : Int32)).toNatClampNeg) (xs (nI (6 * k) + (3 : Int32)).toNatClampNeg) MM r MM' hc2) rfl pmX12_act tw1703 ⟨Nat.le_of_ble_eq_true rfl, Nat.le_of_ble_eq_true rfl⟩ rfl hl.1 (Nat.le_of_ble_eq_true rfl) ⟨(show 82 + 20 * k + 0 ≤ 600000 by omega), (show 9444 + 120 * k + 0 ≤ 7302250 by omega)⟩ rfl dL_law_1261 (fun H locs hC hM hS => ?_)
  refine lv_icmp_eq (tgt := 1594) hx hb dL_law_1264 (by decide) (fun _ => ?_) (fun hc => absurd rfl hc)
  refine lv_iinc (v := nI (6 * (k + 1))) (lv' := [(3, .int (nI (6 * (k + 1)))), (0, .ref b), (1, .ref (adC 11 0)), (2, .ref (adM 12 0))]) hx hb dL_law_1594 hl (k := 3) rfl (nI_add (6 * k) 6) (by decide) rfl (fun ls hl => ?_)
  refine lv_goto (tgt := 18) hx hb dL_law_1597 (by decide) ?_
  refine W.widen (k := 82 + 20 * (k + 1)) (n := 9444 + 120 * (k + 1)) (by omega) (by omega) ?_
  exact ih MC' MM' nS nL adC _ _ _ hs2 hC hM hS (lv_sub hl [1, 2, 3, 0] rfl)
set_option maxHeartbeats 4000000 in
set_option maxRecDepth 100000 in
theorem law_case34 {p : Program} {l : Launch} {e : Env} {s : State} {m : MethodId} {below : List Frame} {meth : Method} {c : Code} {D : va_G} {cy : Nat → ClassId} {K : KC} {adM : Nat → Nat → Nat} {b L : Nat} {xs : Nat → Int32} {Sim : Nat → Mem → Mem → Nat → Nat → Prop} (C0 : LwC p l e s m below meth c D cy K adM b L xs) (hs_trace : ∀ (k : Nat) (MC MM : Mem) (nS nL : Nat) (a1 : Int32), k < 64 → Sim k MC MM nS nL → ∃ (r : Int32), fX11_trace a1 MC = some r ∧ fX12_trace a1 MM = some r ∧ Sim (k + 1) MC MM nS nL) (k : Nat) (hk64 : k < 64) (hin : ∀ j : Nat, j < 6 → vp_in (nI (6 * k) + nI j) L) (ih : LwG p l e s m below meth c D cy adM b Sim 18 (k + 1)) : LwG p l e s m below meth c D cy adM b Sim 1269 k := by
  obtain ⟨hx, hb, hml, hown, hts, hX, hbl, hK, hZ, hMb⟩ := C0
  intro MC MM nS nL adC H locs ls hs hC hM hS hl
  have hbA : ¬ (fun q : Nat => s.heap.size ≤ q) b := Nat.not_le.mpr hbl
  have hin1 : vp_in (nI (6 * k) + (1 : Int32)) L := hin 1 (by decide)
  have hin2 : vp_in (nI (6 * k) + (2 : Int32)) L := hin 2 (by decide)
  have hin3 : vp_in (nI (6 * k) + (3 : Int32)) L := hin 3 (by decide)
  have hin4 : vp_in (nI (6 * k) + (4 : Int32)) L := hin 4 (by decide)
  have hin5 : vp_in (nI (6 * k) + (5 : Int32)) L := hin 5 (by decide)
  refine lv_aload_n hx hb dL_law_1269 rfl (lv_at hl 1 rfl) ?_
  refine lv_aload_n hx hb dL_law_1270 rfl (lv_at hl 0 rfl) ?_
  refine lv_iload_n hx hb dL_law_1271 rfl (lv_at hl 3 rfl) ?_
  refine lv_iconst (v := (1 : Int32)) hx hb dL_law_1272 (by decide) ?_
  refine lv_iadd hx hb dL_law_1273 ?_
  refine va_sld hx hb hX hbl hbA hS hin1 dL_law_1274 ?_
  obtain ⟨r, hc1, hc2, hs2⟩ := hs_trace k MC MM nS nL (xs (nI (6 * k) + (1 : Int32)).toNatClampNeg) hk64 hs
  refine lw_cCI hx hb hml hown hts hK hZ hS hC hM hMb [.int (xs (nI (6 * k) + (1 : Int32)).toNatClampNeg)] (mX11_trace (l := l) ZC_ok (xs (nI (6 * k) + (1 : Int32)).toNatClampNeg) MC r hc1) rfl pmX11_trace tw1136 ⟨Nat.le_of_ble_eq_true rfl, Nat.le_of_ble_eq_true rfl⟩ rfl hl.1 (Nat.le_of_ble_eq_true rfl) ⟨(show 82 + 20 * k + 0 ≤ 600000 by omega), (show 9444 + 120 * k + 0 ≤ 7302250 by omega)⟩ rfl dL_law_1275 (fun H locs hC hM hS => ?_)
  refine lv_aload_n hx hb dL_law_1278 rfl (lv_at hl 2 rfl) ?_
  refine lv_aload_n hx hb dL_law_1279 rfl (lv_at hl 0 rfl) ?_
  refine lv_iload_n hx hb dL_law_1280 rfl (lv_at hl 3 rfl) ?_
  refine lv_iconst (v := (1 : Int32)) hx hb dL_law_1281 (by decide) ?_
  refine lv_iadd hx hb dL_law_1282 ?_
  refine va_sld hx hb hX hbl hbA hS hin1 dL_law_1283 ?_
  refine lw_cMI hx hb hml hown hts hK hZ hS hC hM hMb [.int (xs (nI (6 * k) + (1 : Int32)).toNatClampNeg)] (mX12_trace (l := l) ZT_ok (xs (nI (6 * k) + (1 : Int32)).toNatClampNeg) MM r hc2) rfl pmX12_trace tw1750 ⟨Nat.le_of_ble_eq_true rfl, Nat.le_of_ble_eq_true rfl⟩ rfl hl.1 (Nat.le_of_ble_eq_true rfl) ⟨(show 82 + 20 * k + 0 ≤ 600000 by omega), (show 9444 + 120 * k + 0 ≤ 7302250 by omega)⟩ rfl dL_law_1284 (fun H locs hC hM hS => ?_)
  refine lv_icmp_eq (tgt := 1594) hx hb dL_law_1287 (by decide) (fun _ => ?_) (fun hc => absurd rfl hc)
  refine lv_iinc (v := nI (6 * (k + 1))) (lv' := [(3, .int (nI (6 * (k + 1)))), (0, .ref b), (1, .ref (adC 11 0)), (2, .ref (adM 12 0))]) hx hb dL_law_1594 hl (k := 3) rfl (nI_add (6 * k) 6) (by decide) rfl (fun ls hl => ?_)
  refine lv_goto (tgt := 18) hx hb dL_law_1597 (by decide) ?_
  refine W.widen (k := 82 + 20 * (k + 1)) (n := 9444 + 120 * (k + 1)) (by omega) (by omega) ?_
  exact ih MC MM nS nL adC _ _ _ hs2 hC hM hS (lv_sub hl [1, 2, 3, 0] rfl)
set_option maxHeartbeats 4000000 in
set_option maxRecDepth 100000 in
theorem law_case35 {p : Program} {l : Launch} {e : Env} {s : State} {m : MethodId} {below : List Frame} {meth : Method} {c : Code} {D : va_G} {cy : Nat → ClassId} {K : KC} {adM : Nat → Nat → Nat} {b L : Nat} {xs : Nat → Int32} {Sim : Nat → Mem → Mem → Nat → Nat → Prop} (C0 : LwC p l e s m below meth c D cy K adM b L xs) (hs_keep : ∀ (k : Nat) (MC MM : Mem) (nS nL : Nat) (a1 : Int32) (a2 : Int32), k < 64 → Sim k MC MM nS nL → ∃ (r : Int32) (MC' : Mem) (MM' : Mem), fX11_keep a1 a2 MC = some (r, MC') ∧ fX12_keep a1 a2 MM = some (r, MM') ∧ Sim (k + 1) MC' MM' nS nL) (k : Nat) (hk64 : k < 64) (hin : ∀ j : Nat, j < 6 → vp_in (nI (6 * k) + nI j) L) (ih : LwG p l e s m below meth c D cy adM b Sim 18 (k + 1)) : LwG p l e s m below meth c D cy adM b Sim 1292 k := by
  obtain ⟨hx, hb, hml, hown, hts, hX, hbl, hK, hZ, hMb⟩ := C0
  intro MC MM nS nL adC H locs ls hs hC hM hS hl
  have hbA : ¬ (fun q : Nat => s.heap.size ≤ q) b := Nat.not_le.mpr hbl
  have hin1 : vp_in (nI (6 * k) + (1 : Int32)) L := hin 1 (by decide)
  have hin2 : vp_in (nI (6 * k) + (2 : Int32)) L := hin 2 (by decide)
  have hin3 : vp_in (nI (6 * k) + (3 : Int32)) L := hin 3 (by decide)
  have hin4 : vp_in (nI (6 * k) + (4 : Int32)) L := hin 4 (by decide)
  have hin5 : vp_in (nI (6 * k) + (5 : Int32)) L := hin 5 (by decide)
  refine lv_aload_n hx hb dL_law_1292 rfl (lv_at hl 1 rfl) ?_
  refine lv_aload_n hx hb dL_law_1293 rfl (lv_at hl 0 rfl) ?_
  refine lv_iload_n hx hb dL_law_1294 rfl (lv_at hl 3 rfl) ?_
  refine lv_iconst (v := (1 : Int32)) hx hb dL_law_1295 (by decide) ?_
  refine lv_iadd hx hb dL_law_1296 ?_
  refine va_sld hx hb hX hbl hbA hS hin1 dL_law_1297 ?_
  refine lv_aload_n hx hb dL_law_1298 rfl (lv_at hl 0 rfl) ?_
  refine lv_iload_n hx hb dL_law_1299 rfl (lv_at hl 3 rfl) ?_
  refine lv_iconst (v := (2 : Int32)) hx hb dL_law_1300 (by decide) ?_
  refine lv_iadd hx hb dL_law_1301 ?_
  refine va_sld hx hb hX hbl hbA hS hin2 dL_law_1302 ?_
  obtain ⟨r, MC', MM', hc1, hc2, hs2⟩ := hs_keep k MC MM nS nL (xs (nI (6 * k) + (1 : Int32)).toNatClampNeg) (xs (nI (6 * k) + (2 : Int32)).toNatClampNeg) hk64 hs
  refine lw_cCI hx hb hml hown hts hK hZ hS hC hM hMb [.int (xs (nI (6 * k) + (1 : Int32)).toNatClampNeg), .int (xs (nI (6 * k) + (2 : Int32)).toNatClampNeg)] (mX11_keep (l := l) ZC_ok (xs (nI (6 * k) + (1 : Int32)).toNatClampNeg) (xs (nI (6 * k) + (2 : Int32)).toNatClampNeg) MC r MC' hc1) rfl pmX11_keep tw1140 ⟨Nat.le_of_ble_eq_true rfl, Nat.le_of_ble_eq_true rfl⟩ rfl hl.1 (Nat.le_of_ble_eq_true rfl) ⟨(show 82 + 20 * k + 0 ≤ 600000 by omega), (show 9444 + 120 * k + 0 ≤ 7302250 by omega)⟩ rfl dL_law_1303 (fun H locs hC hM hS => ?_)
  refine lv_aload_n hx hb dL_law_1306 rfl (lv_at hl 2 rfl) ?_
  refine lv_aload_n hx hb dL_law_1307 rfl (lv_at hl 0 rfl) ?_
  refine lv_iload_n hx hb dL_law_1308 rfl (lv_at hl 3 rfl) ?_
  refine lv_iconst (v := (1 : Int32)) hx hb dL_law_1309 (by decide) ?_
  refine lv_iadd hx hb dL_law_1310 ?_
  refine va_sld hx hb hX hbl hbA hS hin1 dL_law_1311 ?_
  refine lv_aload_n hx hb dL_law_1312 rfl (lv_at hl 0 rfl) ?_
  refine lv_iload_n hx hb dL_law_1313 rfl (lv_at hl 3 rfl) ?_
  refine lv_iconst (v := (2 : Int32)) hx hb dL_law_1314 (by decide) ?_
  refine lv_iadd hx hb dL_law_1315 ?_
  refine va_sld hx hb hX hbl hbA hS hin2 dL_law_1316 ?_
  refine lw_cMI hx hb hml hown hts hK hZ hS hC hM hMb [.int (xs (nI (6 * k) + (1 : Int32)).toNatClampNeg), .int (xs (nI (6 * k) + (2 : Int32)).toNatClampNeg)] (mX12_keep (l := l) ZT_ok (xs (nI (6 * k) + (1 : Int32)).toNatClampNeg) (xs (nI (6 * k) + (2 : Int32)).toNatClampNeg) MM r MM' hc2) rfl pmX12_keep tw1758 ⟨Nat.le_of_ble_eq_true rfl, Nat.le_of_ble_eq_true rfl⟩ rfl hl.1 (Nat.le_of_ble_eq_true rfl) ⟨(show 82 + 20 * k + 0 ≤ 600000 by omega), (show 9444 + 120 * k + 0 ≤ 7302250 by omega)⟩ rfl dL_law_1317 (fun H locs hC hM hS => ?_)
  refine lv_icmp_eq (tgt := 1594) hx hb dL_law_1320 (by decide) (fun _ => ?_) (fun hc => absurd rfl hc)
  refine lv_iinc (v := nI (6 * (k + 1))) (lv' := [(3, .int (nI (6 * (k + 1)))), (0, .ref b), (1, .ref (adC 11 0)), (2, .ref (adM 12 0))]) hx hb dL_law_1594 hl (k := 3) rfl (nI_add (6 * k) 6) (by decide) rfl (fun ls hl => ?_)
  refine lv_goto (tgt := 18) hx hb dL_law_1597 (by decide) ?_
  refine W.widen (k := 82 + 20 * (k + 1)) (n := 9444 + 120 * (k + 1)) (by omega) (by omega) ?_
  exact ih MC' MM' nS nL adC _ _ _ hs2 hC hM hS (lv_sub hl [1, 2, 3, 0] rfl)
set_option maxHeartbeats 4000000 in
set_option maxRecDepth 100000 in
theorem law_case36 {p : Program} {l : Launch} {e : Env} {s : State} {m : MethodId} {below : List Frame} {meth : Method} {c : Code} {D : va_G} {cy : Nat → ClassId} {K : KC} {adM : Nat → Nat → Nat} {b L : Nat} {xs : Nat → Int32} {Sim : Nat → Mem → Mem → Nat → Nat → Prop} (C0 : LwC p l e s m below meth c D cy K adM b L xs) (hs_row : ∀ (k : Nat) (MC MM : Mem) (nS nL : Nat) (a1 : Int32) (a2 : Int32) (a3 : Int32), k < 64 → Sim k MC MM nS nL → ∃ (r : Int32) (MC' : Mem) (MM' : Mem), fX11_row a1 a2 a3 MC = some (r, MC') ∧ fX12_row a1 a2 a3 MM = some (r, MM') ∧ Sim (k + 1) MC' MM' nS nL) (k : Nat) (hk64 : k < 64) (hin : ∀ j : Nat, j < 6 → vp_in (nI (6 * k) + nI j) L) (ih : LwG p l e s m below meth c D cy adM b Sim 18 (k + 1)) : LwG p l e s m below meth c D cy adM b Sim 1325 k := by
  obtain ⟨hx, hb, hml, hown, hts, hX, hbl, hK, hZ, hMb⟩ := C0
  intro MC MM nS nL adC H locs ls hs hC hM hS hl
  have hbA : ¬ (fun q : Nat => s.heap.size ≤ q) b := Nat.not_le.mpr hbl
  have hin1 : vp_in (nI (6 * k) + (1 : Int32)) L := hin 1 (by decide)
  have hin2 : vp_in (nI (6 * k) + (2 : Int32)) L := hin 2 (by decide)
  have hin3 : vp_in (nI (6 * k) + (3 : Int32)) L := hin 3 (by decide)
  have hin4 : vp_in (nI (6 * k) + (4 : Int32)) L := hin 4 (by decide)
  have hin5 : vp_in (nI (6 * k) + (5 : Int32)) L := hin 5 (by decide)
  refine lv_aload_n hx hb dL_law_1325 rfl (lv_at hl 1 rfl) ?_
  refine lv_aload_n hx hb dL_law_1326 rfl (lv_at hl 0 rfl) ?_
  refine lv_iload_n hx hb dL_law_1327 rfl (lv_at hl 3 rfl) ?_
  refine lv_iconst (v := (1 : Int32)) hx hb dL_law_1328 (by decide) ?_
  refine lv_iadd hx hb dL_law_1329 ?_
  refine va_sld hx hb hX hbl hbA hS hin1 dL_law_1330 ?_
  refine lv_aload_n hx hb dL_law_1331 rfl (lv_at hl 0 rfl) ?_
  refine lv_iload_n hx hb dL_law_1332 rfl (lv_at hl 3 rfl) ?_
  refine lv_iconst (v := (2 : Int32)) hx hb dL_law_1333 (by decide) ?_
  refine lv_iadd hx hb dL_law_1334 ?_
  refine va_sld hx hb hX hbl hbA hS hin2 dL_law_1335 ?_
  refine lv_aload_n hx hb dL_law_1336 rfl (lv_at hl 0 rfl) ?_
  refine lv_iload_n hx hb dL_law_1337 rfl (lv_at hl 3 rfl) ?_
  refine lv_iconst (v := (3 : Int32)) hx hb dL_law_1338 (by decide) ?_
  refine lv_iadd hx hb dL_law_1339 ?_
  refine va_sld hx hb hX hbl hbA hS hin3 dL_law_1340 ?_
  obtain ⟨r, MC', MM', hc1, hc2, hs2⟩ := hs_row k MC MM nS nL (xs (nI (6 * k) + (1 : Int32)).toNatClampNeg) (xs (nI (6 * k) + (2 : Int32)).toNatClampNeg) (xs (nI (6 * k) + (3 : Int32)).toNatClampNeg) hk64 hs
  refine lw_cCI hx hb hml hown hts hK hZ hS hC hM hMb [.int (xs (nI (6 * k) + (1 : Int32)).toNatClampNeg), .int (xs (nI (6 * k) + (2 : Int32)).toNatClampNeg), .int (xs (nI (6 * k) + (3 : Int32)).toNatClampNeg)] (mX11_row (l := l) ZC_ok (xs (nI (6 * k) + (1 : Int32)).toNatClampNeg) (xs (nI (6 * k) + (2 : Int32)).toNatClampNeg) (xs (nI (6 * k) + (3 : Int32)).toNatClampNeg) MC r MC' hc1) rfl pmX11_row tw1148 ⟨Nat.le_of_ble_eq_true rfl, Nat.le_of_ble_eq_true rfl⟩ rfl hl.1 (Nat.le_of_ble_eq_true rfl) ⟨(show 82 + 20 * k + 0 ≤ 600000 by omega), (show 9444 + 120 * k + 0 ≤ 7302250 by omega)⟩ rfl dL_law_1341 (fun H locs hC hM hS => ?_)
  refine lv_aload_n hx hb dL_law_1344 rfl (lv_at hl 2 rfl) ?_
  refine lv_aload_n hx hb dL_law_1345 rfl (lv_at hl 0 rfl) ?_
  refine lv_iload_n hx hb dL_law_1346 rfl (lv_at hl 3 rfl) ?_
  refine lv_iconst (v := (1 : Int32)) hx hb dL_law_1347 (by decide) ?_
  refine lv_iadd hx hb dL_law_1348 ?_
  refine va_sld hx hb hX hbl hbA hS hin1 dL_law_1349 ?_
  refine lv_aload_n hx hb dL_law_1350 rfl (lv_at hl 0 rfl) ?_
  refine lv_iload_n hx hb dL_law_1351 rfl (lv_at hl 3 rfl) ?_
  refine lv_iconst (v := (2 : Int32)) hx hb dL_law_1352 (by decide) ?_
  refine lv_iadd hx hb dL_law_1353 ?_
  refine va_sld hx hb hX hbl hbA hS hin2 dL_law_1354 ?_
  refine lv_aload_n hx hb dL_law_1355 rfl (lv_at hl 0 rfl) ?_
  refine lv_iload_n hx hb dL_law_1356 rfl (lv_at hl 3 rfl) ?_
  refine lv_iconst (v := (3 : Int32)) hx hb dL_law_1357 (by decide) ?_
  refine lv_iadd hx hb dL_law_1358 ?_
  refine va_sld hx hb hX hbl hbA hS hin3 dL_law_1359 ?_
  refine lw_cMI hx hb hml hown hts hK hZ hS hC hM hMb [.int (xs (nI (6 * k) + (1 : Int32)).toNatClampNeg), .int (xs (nI (6 * k) + (2 : Int32)).toNatClampNeg), .int (xs (nI (6 * k) + (3 : Int32)).toNatClampNeg)] (mX12_row (l := l) ZT_ok (xs (nI (6 * k) + (1 : Int32)).toNatClampNeg) (xs (nI (6 * k) + (2 : Int32)).toNatClampNeg) (xs (nI (6 * k) + (3 : Int32)).toNatClampNeg) MM r MM' hc2) rfl pmX12_row tw1762 ⟨Nat.le_of_ble_eq_true rfl, Nat.le_of_ble_eq_true rfl⟩ rfl hl.1 (Nat.le_of_ble_eq_true rfl) ⟨(show 82 + 20 * k + 0 ≤ 600000 by omega), (show 9444 + 120 * k + 0 ≤ 7302250 by omega)⟩ rfl dL_law_1360 (fun H locs hC hM hS => ?_)
  refine lv_icmp_eq (tgt := 1594) hx hb dL_law_1363 (by decide) (fun _ => ?_) (fun hc => absurd rfl hc)
  refine lv_iinc (v := nI (6 * (k + 1))) (lv' := [(3, .int (nI (6 * (k + 1)))), (0, .ref b), (1, .ref (adC 11 0)), (2, .ref (adM 12 0))]) hx hb dL_law_1594 hl (k := 3) rfl (nI_add (6 * k) 6) (by decide) rfl (fun ls hl => ?_)
  refine lv_goto (tgt := 18) hx hb dL_law_1597 (by decide) ?_
  refine W.widen (k := 82 + 20 * (k + 1)) (n := 9444 + 120 * (k + 1)) (by omega) (by omega) ?_
  exact ih MC' MM' nS nL adC _ _ _ hs2 hC hM hS (lv_sub hl [1, 2, 3, 0] rfl)
set_option maxHeartbeats 4000000 in
set_option maxRecDepth 100000 in
theorem law_case37 {p : Program} {l : Launch} {e : Env} {s : State} {m : MethodId} {below : List Frame} {meth : Method} {c : Code} {D : va_G} {cy : Nat → ClassId} {K : KC} {adM : Nat → Nat → Nat} {b L : Nat} {xs : Nat → Int32} {Sim : Nat → Mem → Mem → Nat → Nat → Prop} (C0 : LwC p l e s m below meth c D cy K adM b L xs) (hs_put : ∀ (k : Nat) (MC MM : Mem) (nS nL : Nat) (a1 : Int32) (a2 : Int32) (a3 : Int64), k < 64 → Sim k MC MM nS nL → ∃ (r : Int32) (MC' : Mem) (MM' : Mem), fX11_put a1 a2 a3 MC = some (r, MC') ∧ fX12_put a1 a2 a3 MM = some (r, MM') ∧ Sim (k + 1) MC' MM' nS nL) (k : Nat) (hk64 : k < 64) (hin : ∀ j : Nat, j < 6 → vp_in (nI (6 * k) + nI j) L) (ih : LwG p l e s m below meth c D cy adM b Sim 18 (k + 1)) : LwG p l e s m below meth c D cy adM b Sim 1368 k := by
  obtain ⟨hx, hb, hml, hown, hts, hX, hbl, hK, hZ, hMb⟩ := C0
  intro MC MM nS nL adC H locs ls hs hC hM hS hl
  have hbA : ¬ (fun q : Nat => s.heap.size ≤ q) b := Nat.not_le.mpr hbl
  have hin1 : vp_in (nI (6 * k) + (1 : Int32)) L := hin 1 (by decide)
  have hin2 : vp_in (nI (6 * k) + (2 : Int32)) L := hin 2 (by decide)
  have hin3 : vp_in (nI (6 * k) + (3 : Int32)) L := hin 3 (by decide)
  have hin4 : vp_in (nI (6 * k) + (4 : Int32)) L := hin 4 (by decide)
  have hin5 : vp_in (nI (6 * k) + (5 : Int32)) L := hin 5 (by decide)
  refine lv_aload_n hx hb dL_law_1368 rfl (lv_at hl 1 rfl) ?_
  refine lv_aload_n hx hb dL_law_1369 rfl (lv_at hl 0 rfl) ?_
  refine lv_iload_n hx hb dL_law_1370 rfl (lv_at hl 3 rfl) ?_
  refine lv_iconst (v := (1 : Int32)) hx hb dL_law_1371 (by decide) ?_
  refine lv_iadd hx hb dL_law_1372 ?_
  refine va_sld hx hb hX hbl hbA hS hin1 dL_law_1373 ?_
  refine lv_aload_n hx hb dL_law_1374 rfl (lv_at hl 0 rfl) ?_
  refine lv_iload_n hx hb dL_law_1375 rfl (lv_at hl 3 rfl) ?_
  refine lv_iconst (v := (2 : Int32)) hx hb dL_law_1376 (by decide) ?_
  refine lv_iadd hx hb dL_law_1377 ?_
  refine va_sld hx hb hX hbl hbA hS hin2 dL_law_1378 ?_
  refine lv_aload_n hx hb dL_law_1379 rfl (lv_at hl 0 rfl) ?_
  refine lv_iload_n hx hb dL_law_1380 rfl (lv_at hl 3 rfl) ?_
  refine lv_iconst (v := (3 : Int32)) hx hb dL_law_1381 (by decide) ?_
  refine lv_iadd hx hb dL_law_1382 ?_
  refine va_sld hx hb hX hbl hbA hS hin3 dL_law_1383 ?_
  refine lv_i2l hx hb dL_law_1384 rfl ?_
  refine lv_bipush (v := (32 : Int32)) hx hb dL_law_1385 (by decide) ?_
  refine lv_lshl hx hb dL_law_1387 rfl ?_
  refine lv_aload_n hx hb dL_law_1388 rfl (lv_at hl 0 rfl) ?_
  refine lv_iload_n hx hb dL_law_1389 rfl (lv_at hl 3 rfl) ?_
  refine lv_iconst (v := (4 : Int32)) hx hb dL_law_1390 (by decide) ?_
  refine lv_iadd hx hb dL_law_1391 ?_
  refine va_sld hx hb hX hbl hbA hS hin4 dL_law_1392 ?_
  refine lv_i2l hx hb dL_law_1393 rfl ?_
  refine lv_ldc2 hx hb hown (hts _ tw1787) dL_law_1394 ?_
  refine lv_land hx hb dL_law_1397 ?_
  refine lv_lor hx hb dL_law_1398 ?_
  obtain ⟨r, MC', MM', hc1, hc2, hs2⟩ := hs_put k MC MM nS nL (xs (nI (6 * k) + (1 : Int32)).toNatClampNeg) (xs (nI (6 * k) + (2 : Int32)).toNatClampNeg) ((((xs (nI (6 * k) + (3 : Int32)).toNatClampNeg).toInt64) <<< ((32 : Int32).toInt64 &&& 63)) ||| (((xs (nI (6 * k) + (4 : Int32)).toNatClampNeg).toInt64) &&& (4294967295 : Int64))) hk64 hs
  refine lw_cCI hx hb hml hown hts hK hZ hS hC hM hMb [.int (xs (nI (6 * k) + (1 : Int32)).toNatClampNeg), .int (xs (nI (6 * k) + (2 : Int32)).toNatClampNeg), .long ((((xs (nI (6 * k) + (3 : Int32)).toNatClampNeg).toInt64) <<< ((32 : Int32).toInt64 &&& 63)) ||| (((xs (nI (6 * k) + (4 : Int32)).toNatClampNeg).toInt64) &&& (4294967295 : Int64)))] (mX11_put (l := l) ZC_ok (xs (nI (6 * k) + (1 : Int32)).toNatClampNeg) (xs (nI (6 * k) + (2 : Int32)).toNatClampNeg) ((((xs (nI (6 * k) + (3 : Int32)).toNatClampNeg).toInt64) <<< ((32 : Int32).toInt64 &&& 63)) ||| (((xs (nI (6 * k) + (4 : Int32)).toNatClampNeg).toInt64) &&& (4294967295 : Int64))) MC r MC' hc1) rfl pmX11_put tw1156 ⟨Nat.le_of_ble_eq_true rfl, Nat.le_of_ble_eq_true rfl⟩ rfl hl.1 (Nat.le_of_ble_eq_true rfl) ⟨(show 82 + 20 * k + 0 ≤ 600000 by omega), (show 9444 + 120 * k + 0 ≤ 7302250 by omega)⟩ rfl dL_law_1399 (fun H locs hC hM hS => ?_)
  refine lv_aload_n hx hb dL_law_1402 rfl (lv_at hl 2 rfl) ?_
  refine lv_aload_n hx hb dL_law_1403 rfl (lv_at hl 0 rfl) ?_
  refine lv_iload_n hx hb dL_law_1404 rfl (lv_at hl 3 rfl) ?_
  refine lv_iconst (v := (1 : Int32)) hx hb dL_law_1405 (by decide) ?_
  refine lv_iadd hx hb dL_law_1406 ?_
  refine va_sld hx hb hX hbl hbA hS hin1 dL_law_1407 ?_
  refine lv_aload_n hx hb dL_law_1408 rfl (lv_at hl 0 rfl) ?_
  refine lv_iload_n hx hb dL_law_1409 rfl (lv_at hl 3 rfl) ?_
  refine lv_iconst (v := (2 : Int32)) hx hb dL_law_1410 (by decide) ?_
  refine lv_iadd hx hb dL_law_1411 ?_
  refine va_sld hx hb hX hbl hbA hS hin2 dL_law_1412 ?_
  refine lv_aload_n hx hb dL_law_1413 rfl (lv_at hl 0 rfl) ?_
  refine lv_iload_n hx hb dL_law_1414 rfl (lv_at hl 3 rfl) ?_
  refine lv_iconst (v := (3 : Int32)) hx hb dL_law_1415 (by decide) ?_
  refine lv_iadd hx hb dL_law_1416 ?_
  refine va_sld hx hb hX hbl hbA hS hin3 dL_law_1417 ?_
  refine lv_i2l hx hb dL_law_1418 rfl ?_
  refine lv_bipush (v := (32 : Int32)) hx hb dL_law_1419 (by decide) ?_
  refine lv_lshl hx hb dL_law_1421 rfl ?_
  refine lv_aload_n hx hb dL_law_1422 rfl (lv_at hl 0 rfl) ?_
  refine lv_iload_n hx hb dL_law_1423 rfl (lv_at hl 3 rfl) ?_
  refine lv_iconst (v := (4 : Int32)) hx hb dL_law_1424 (by decide) ?_
  refine lv_iadd hx hb dL_law_1425 ?_
  refine va_sld hx hb hX hbl hbA hS hin4 dL_law_1426 ?_
  refine lv_i2l hx hb dL_law_1427 rfl ?_
  refine lv_ldc2 hx hb hown (hts _ tw1787) dL_law_1428 ?_
  refine lv_land hx hb dL_law_1431 ?_
  refine lv_lor hx hb dL_law_1432 ?_
  refine lw_cMI hx hb hml hown hts hK hZ hS hC hM hMb [.int (xs (nI (6 * k) + (1 : Int32)).toNatClampNeg), .int (xs (nI (6 * k) + (2 : Int32)).toNatClampNeg), .long ((((xs (nI (6 * k) + (3 : Int32)).toNatClampNeg).toInt64) <<< ((32 : Int32).toInt64 &&& 63)) ||| (((xs (nI (6 * k) + (4 : Int32)).toNatClampNeg).toInt64) &&& (4294967295 : Int64)))] (mX12_put (l := l) ZT_ok (xs (nI (6 * k) + (1 : Int32)).toNatClampNeg) (xs (nI (6 * k) + (2 : Int32)).toNatClampNeg) ((((xs (nI (6 * k) + (3 : Int32)).toNatClampNeg).toInt64) <<< ((32 : Int32).toInt64 &&& 63)) ||| (((xs (nI (6 * k) + (4 : Int32)).toNatClampNeg).toInt64) &&& (4294967295 : Int64))) MM r MM' hc2) rfl pmX12_put tw1766 ⟨Nat.le_of_ble_eq_true rfl, Nat.le_of_ble_eq_true rfl⟩ rfl hl.1 (Nat.le_of_ble_eq_true rfl) ⟨(show 82 + 20 * k + 0 ≤ 600000 by omega), (show 9444 + 120 * k + 0 ≤ 7302250 by omega)⟩ rfl dL_law_1433 (fun H locs hC hM hS => ?_)
  refine lv_icmp_eq (tgt := 1594) hx hb dL_law_1436 (by decide) (fun _ => ?_) (fun hc => absurd rfl hc)
  refine lv_iinc (v := nI (6 * (k + 1))) (lv' := [(3, .int (nI (6 * (k + 1)))), (0, .ref b), (1, .ref (adC 11 0)), (2, .ref (adM 12 0))]) hx hb dL_law_1594 hl (k := 3) rfl (nI_add (6 * k) 6) (by decide) rfl (fun ls hl => ?_)
  refine lv_goto (tgt := 18) hx hb dL_law_1597 (by decide) ?_
  refine W.widen (k := 82 + 20 * (k + 1)) (n := 9444 + 120 * (k + 1)) (by omega) (by omega) ?_
  exact ih MC' MM' nS nL adC _ _ _ hs2 hC hM hS (lv_sub hl [1, 2, 3, 0] rfl)
set_option maxHeartbeats 4000000 in
set_option maxRecDepth 100000 in
theorem law_case38 {p : Program} {l : Launch} {e : Env} {s : State} {m : MethodId} {below : List Frame} {meth : Method} {c : Code} {D : va_G} {cy : Nat → ClassId} {K : KC} {adM : Nat → Nat → Nat} {b L : Nat} {xs : Nat → Int32} {Sim : Nat → Mem → Mem → Nat → Nat → Prop} (C0 : LwC p l e s m below meth c D cy K adM b L xs) (hs_element : ∀ (k : Nat) (MC MM : Mem) (nS nL : Nat) (a1 : Int32) (a2 : Int32), k < 64 → Sim k MC MM nS nL → ∃ (r : Int64), fX11_element a1 a2 MC = some r ∧ fX12_element a1 a2 MM = some r ∧ Sim (k + 1) MC MM nS nL) (k : Nat) (hk64 : k < 64) (hin : ∀ j : Nat, j < 6 → vp_in (nI (6 * k) + nI j) L) (ih : LwG p l e s m below meth c D cy adM b Sim 18 (k + 1)) : LwG p l e s m below meth c D cy adM b Sim 1441 k := by
  obtain ⟨hx, hb, hml, hown, hts, hX, hbl, hK, hZ, hMb⟩ := C0
  intro MC MM nS nL adC H locs ls hs hC hM hS hl
  have hbA : ¬ (fun q : Nat => s.heap.size ≤ q) b := Nat.not_le.mpr hbl
  have hin1 : vp_in (nI (6 * k) + (1 : Int32)) L := hin 1 (by decide)
  have hin2 : vp_in (nI (6 * k) + (2 : Int32)) L := hin 2 (by decide)
  have hin3 : vp_in (nI (6 * k) + (3 : Int32)) L := hin 3 (by decide)
  have hin4 : vp_in (nI (6 * k) + (4 : Int32)) L := hin 4 (by decide)
  have hin5 : vp_in (nI (6 * k) + (5 : Int32)) L := hin 5 (by decide)
  refine lv_aload_n hx hb dL_law_1441 rfl (lv_at hl 1 rfl) ?_
  refine lv_aload_n hx hb dL_law_1442 rfl (lv_at hl 0 rfl) ?_
  refine lv_iload_n hx hb dL_law_1443 rfl (lv_at hl 3 rfl) ?_
  refine lv_iconst (v := (1 : Int32)) hx hb dL_law_1444 (by decide) ?_
  refine lv_iadd hx hb dL_law_1445 ?_
  refine va_sld hx hb hX hbl hbA hS hin1 dL_law_1446 ?_
  refine lv_aload_n hx hb dL_law_1447 rfl (lv_at hl 0 rfl) ?_
  refine lv_iload_n hx hb dL_law_1448 rfl (lv_at hl 3 rfl) ?_
  refine lv_iconst (v := (2 : Int32)) hx hb dL_law_1449 (by decide) ?_
  refine lv_iadd hx hb dL_law_1450 ?_
  refine va_sld hx hb hX hbl hbA hS hin2 dL_law_1451 ?_
  obtain ⟨r, hc1, hc2, hs2⟩ := hs_element k MC MM nS nL (xs (nI (6 * k) + (1 : Int32)).toNatClampNeg) (xs (nI (6 * k) + (2 : Int32)).toNatClampNeg) hk64 hs
  refine lw_cCL hx hb hml hown hts hK hZ hS hC hM hMb [.int (xs (nI (6 * k) + (1 : Int32)).toNatClampNeg), .int (xs (nI (6 * k) + (2 : Int32)).toNatClampNeg)] (mX11_element (l := l) ZC_ok (xs (nI (6 * k) + (1 : Int32)).toNatClampNeg) (xs (nI (6 * k) + (2 : Int32)).toNatClampNeg) MC r hc1) rfl pmX11_element tw1174 ⟨Nat.le_of_ble_eq_true rfl, Nat.le_of_ble_eq_true rfl⟩ rfl hl.1 (Nat.le_of_ble_eq_true rfl) ⟨(show 82 + 20 * k + 0 ≤ 600000 by omega), (show 9444 + 120 * k + 0 ≤ 7302250 by omega)⟩ rfl dL_law_1452 (fun H locs hC hM hS => ?_)
  refine lv_aload_n hx hb dL_law_1455 rfl (lv_at hl 2 rfl) ?_
  refine lv_aload_n hx hb dL_law_1456 rfl (lv_at hl 0 rfl) ?_
  refine lv_iload_n hx hb dL_law_1457 rfl (lv_at hl 3 rfl) ?_
  refine lv_iconst (v := (1 : Int32)) hx hb dL_law_1458 (by decide) ?_
  refine lv_iadd hx hb dL_law_1459 ?_
  refine va_sld hx hb hX hbl hbA hS hin1 dL_law_1460 ?_
  refine lv_aload_n hx hb dL_law_1461 rfl (lv_at hl 0 rfl) ?_
  refine lv_iload_n hx hb dL_law_1462 rfl (lv_at hl 3 rfl) ?_
  refine lv_iconst (v := (2 : Int32)) hx hb dL_law_1463 (by decide) ?_
  refine lv_iadd hx hb dL_law_1464 ?_
  refine va_sld hx hb hX hbl hbA hS hin2 dL_law_1465 ?_
  refine lw_cML hx hb hml hown hts hK hZ hS hC hM hMb [.int (xs (nI (6 * k) + (1 : Int32)).toNatClampNeg), .int (xs (nI (6 * k) + (2 : Int32)).toNatClampNeg)] (mX12_element (l := l) ZT_ok (xs (nI (6 * k) + (1 : Int32)).toNatClampNeg) (xs (nI (6 * k) + (2 : Int32)).toNatClampNeg) MM r hc2) rfl pmX12_element tw1774 ⟨Nat.le_of_ble_eq_true rfl, Nat.le_of_ble_eq_true rfl⟩ rfl hl.1 (Nat.le_of_ble_eq_true rfl) ⟨(show 82 + 20 * k + 0 ≤ 600000 by omega), (show 9444 + 120 * k + 0 ≤ 7302250 by omega)⟩ rfl dL_law_1466 (fun H locs hC hM hS => ?_)
  refine W.lcmp hx hb dL_law_1469 ?_
  refine lv_if_eq (tgt := 1594) hx hb dL_law_1470 (by decide) (fun _ => ?_) (fun hc => absurd (by simp [lg_cmp]) hc)
  refine lv_iinc (v := nI (6 * (k + 1))) (lv' := [(3, .int (nI (6 * (k + 1)))), (0, .ref b), (1, .ref (adC 11 0)), (2, .ref (adM 12 0))]) hx hb dL_law_1594 hl (k := 3) rfl (nI_add (6 * k) 6) (by decide) rfl (fun ls hl => ?_)
  refine lv_goto (tgt := 18) hx hb dL_law_1597 (by decide) ?_
  refine W.widen (k := 82 + 20 * (k + 1)) (n := 9444 + 120 * (k + 1)) (by omega) (by omega) ?_
  exact ih MC MM nS nL adC _ _ _ hs2 hC hM hS (lv_sub hl [1, 2, 3, 0] rfl)
set_option maxHeartbeats 4000000 in
set_option maxRecDepth 100000 in
theorem law_case39 {p : Program} {l : Launch} {e : Env} {s : State} {m : MethodId} {below : List Frame} {meth : Method} {c : Code} {D : va_G} {cy : Nat → ClassId} {K : KC} {adM : Nat → Nat → Nat} {b L : Nat} {xs : Nat → Int32} {Sim : Nat → Mem → Mem → Nat → Nat → Prop} (C0 : LwC p l e s m below meth c D cy K adM b L xs) (hs_shift : ∀ (k : Nat) (MC MM : Mem) (nS nL : Nat) (a1 : Int32) (a2 : Int32) (a3 : Int32) (a4 : Int32) (a5 : Int32), k < 64 → Sim k MC MM nS nL → ∃ (r : Int32) (MC' : Mem) (MM' : Mem), fX11_shift a1 a2 a3 a4 a5 MC = some (r, MC') ∧ fX12_shift a1 a2 a3 a4 a5 MM = some (r, MM') ∧ Sim (k + 1) MC' MM' nS nL) (k : Nat) (hk64 : k < 64) (hin : ∀ j : Nat, j < 6 → vp_in (nI (6 * k) + nI j) L) (ih : LwG p l e s m below meth c D cy adM b Sim 18 (k + 1)) : LwG p l e s m below meth c D cy adM b Sim 1475 k := by
  obtain ⟨hx, hb, hml, hown, hts, hX, hbl, hK, hZ, hMb⟩ := C0
  intro MC MM nS nL adC H locs ls hs hC hM hS hl
  have hbA : ¬ (fun q : Nat => s.heap.size ≤ q) b := Nat.not_le.mpr hbl
  have hin1 : vp_in (nI (6 * k) + (1 : Int32)) L := hin 1 (by decide)
  have hin2 : vp_in (nI (6 * k) + (2 : Int32)) L := hin 2 (by decide)
  have hin3 : vp_in (nI (6 * k) + (3 : Int32)) L := hin 3 (by decide)
  have hin4 : vp_in (nI (6 * k) + (4 : Int32)) L := hin 4 (by decide)
  have hin5 : vp_in (nI (6 * k) + (5 : Int32)) L := hin 5 (by decide)
  refine lv_aload_n hx hb dL_law_1475 rfl (lv_at hl 1 rfl) ?_
  refine lv_aload_n hx hb dL_law_1476 rfl (lv_at hl 0 rfl) ?_
  refine lv_iload_n hx hb dL_law_1477 rfl (lv_at hl 3 rfl) ?_
  refine lv_iconst (v := (1 : Int32)) hx hb dL_law_1478 (by decide) ?_
  refine lv_iadd hx hb dL_law_1479 ?_
  refine va_sld hx hb hX hbl hbA hS hin1 dL_law_1480 ?_
  refine lv_aload_n hx hb dL_law_1481 rfl (lv_at hl 0 rfl) ?_
  refine lv_iload_n hx hb dL_law_1482 rfl (lv_at hl 3 rfl) ?_
  refine lv_iconst (v := (2 : Int32)) hx hb dL_law_1483 (by decide) ?_
  refine lv_iadd hx hb dL_law_1484 ?_
  refine va_sld hx hb hX hbl hbA hS hin2 dL_law_1485 ?_
  refine lv_aload_n hx hb dL_law_1486 rfl (lv_at hl 0 rfl) ?_
  refine lv_iload_n hx hb dL_law_1487 rfl (lv_at hl 3 rfl) ?_
  refine lv_iconst (v := (3 : Int32)) hx hb dL_law_1488 (by decide) ?_
  refine lv_iadd hx hb dL_law_1489 ?_
  refine va_sld hx hb hX hbl hbA hS hin3 dL_law_1490 ?_
  refine lv_aload_n hx hb dL_law_1491 rfl (lv_at hl 0 rfl) ?_
  refine lv_iload_n hx hb dL_law_1492 rfl (lv_at hl 3 rfl) ?_
  refine lv_iconst (v := (4 : Int32)) hx hb dL_law_1493 (by decide) ?_
  refine lv_iadd hx hb dL_law_1494 ?_
  refine va_sld hx hb hX hbl hbA hS hin4 dL_law_1495 ?_
  refine lv_aload_n hx hb dL_law_1496 rfl (lv_at hl 0 rfl) ?_
  refine lv_iload_n hx hb dL_law_1497 rfl (lv_at hl 3 rfl) ?_
  refine lv_iconst (v := (5 : Int32)) hx hb dL_law_1498 (by decide) ?_
  refine lv_iadd hx hb dL_law_1499 ?_
  refine va_sld hx hb hX hbl hbA hS hin5 dL_law_1500 ?_
  obtain ⟨r, MC', MM', hc1, hc2, hs2⟩ := hs_shift k MC MM nS nL (xs (nI (6 * k) + (1 : Int32)).toNatClampNeg) (xs (nI (6 * k) + (2 : Int32)).toNatClampNeg) (xs (nI (6 * k) + (3 : Int32)).toNatClampNeg) (xs (nI (6 * k) + (4 : Int32)).toNatClampNeg) (xs (nI (6 * k) + (5 : Int32)).toNatClampNeg) hk64 hs
  refine lw_cCI hx hb hml hown hts hK hZ hS hC hM hMb [.int (xs (nI (6 * k) + (1 : Int32)).toNatClampNeg), .int (xs (nI (6 * k) + (2 : Int32)).toNatClampNeg), .int (xs (nI (6 * k) + (3 : Int32)).toNatClampNeg), .int (xs (nI (6 * k) + (4 : Int32)).toNatClampNeg), .int (xs (nI (6 * k) + (5 : Int32)).toNatClampNeg)] (mX11_shift (l := l) ZC_ok (xs (nI (6 * k) + (1 : Int32)).toNatClampNeg) (xs (nI (6 * k) + (2 : Int32)).toNatClampNeg) (xs (nI (6 * k) + (3 : Int32)).toNatClampNeg) (xs (nI (6 * k) + (4 : Int32)).toNatClampNeg) (xs (nI (6 * k) + (5 : Int32)).toNatClampNeg) MC r MC' hc1) rfl pmX11_shift tw1179 ⟨Nat.le_of_ble_eq_true rfl, Nat.le_of_ble_eq_true rfl⟩ rfl hl.1 (Nat.le_of_ble_eq_true rfl) ⟨(show 82 + 20 * k + 0 ≤ 600000 by omega), (show 9444 + 120 * k + 0 ≤ 7302250 by omega)⟩ rfl dL_law_1501 (fun H locs hC hM hS => ?_)
  refine lv_aload_n hx hb dL_law_1504 rfl (lv_at hl 2 rfl) ?_
  refine lv_aload_n hx hb dL_law_1505 rfl (lv_at hl 0 rfl) ?_
  refine lv_iload_n hx hb dL_law_1506 rfl (lv_at hl 3 rfl) ?_
  refine lv_iconst (v := (1 : Int32)) hx hb dL_law_1507 (by decide) ?_
  refine lv_iadd hx hb dL_law_1508 ?_
  refine va_sld hx hb hX hbl hbA hS hin1 dL_law_1509 ?_
  refine lv_aload_n hx hb dL_law_1510 rfl (lv_at hl 0 rfl) ?_
  refine lv_iload_n hx hb dL_law_1511 rfl (lv_at hl 3 rfl) ?_
  refine lv_iconst (v := (2 : Int32)) hx hb dL_law_1512 (by decide) ?_
  refine lv_iadd hx hb dL_law_1513 ?_
  refine va_sld hx hb hX hbl hbA hS hin2 dL_law_1514 ?_
  refine lv_aload_n hx hb dL_law_1515 rfl (lv_at hl 0 rfl) ?_
  refine lv_iload_n hx hb dL_law_1516 rfl (lv_at hl 3 rfl) ?_
  refine lv_iconst (v := (3 : Int32)) hx hb dL_law_1517 (by decide) ?_
  refine lv_iadd hx hb dL_law_1518 ?_
  refine va_sld hx hb hX hbl hbA hS hin3 dL_law_1519 ?_
  refine lv_aload_n hx hb dL_law_1520 rfl (lv_at hl 0 rfl) ?_
  refine lv_iload_n hx hb dL_law_1521 rfl (lv_at hl 3 rfl) ?_
  refine lv_iconst (v := (4 : Int32)) hx hb dL_law_1522 (by decide) ?_
  refine lv_iadd hx hb dL_law_1523 ?_
  refine va_sld hx hb hX hbl hbA hS hin4 dL_law_1524 ?_
  refine lv_aload_n hx hb dL_law_1525 rfl (lv_at hl 0 rfl) ?_
  refine lv_iload_n hx hb dL_law_1526 rfl (lv_at hl 3 rfl) ?_
  refine lv_iconst (v := (5 : Int32)) hx hb dL_law_1527 (by decide) ?_
  refine lv_iadd hx hb dL_law_1528 ?_
  refine va_sld hx hb hX hbl hbA hS hin5 dL_law_1529 ?_
  refine lw_cMI hx hb hml hown hts hK hZ hS hC hM hMb [.int (xs (nI (6 * k) + (1 : Int32)).toNatClampNeg), .int (xs (nI (6 * k) + (2 : Int32)).toNatClampNeg), .int (xs (nI (6 * k) + (3 : Int32)).toNatClampNeg), .int (xs (nI (6 * k) + (4 : Int32)).toNatClampNeg), .int (xs (nI (6 * k) + (5 : Int32)).toNatClampNeg)] (mX12_shift (l := l) ZT_ok (xs (nI (6 * k) + (1 : Int32)).toNatClampNeg) (xs (nI (6 * k) + (2 : Int32)).toNatClampNeg) (xs (nI (6 * k) + (3 : Int32)).toNatClampNeg) (xs (nI (6 * k) + (4 : Int32)).toNatClampNeg) (xs (nI (6 * k) + (5 : Int32)).toNatClampNeg) MM r MM' hc2) rfl pmX12_shift tw1779 ⟨Nat.le_of_ble_eq_true rfl, Nat.le_of_ble_eq_true rfl⟩ rfl hl.1 (Nat.le_of_ble_eq_true rfl) ⟨(show 82 + 20 * k + 0 ≤ 600000 by omega), (show 9444 + 120 * k + 0 ≤ 7302250 by omega)⟩ rfl dL_law_1530 (fun H locs hC hM hS => ?_)
  refine lv_icmp_eq (tgt := 1594) hx hb dL_law_1533 (by decide) (fun _ => ?_) (fun hc => absurd rfl hc)
  refine lv_iinc (v := nI (6 * (k + 1))) (lv' := [(3, .int (nI (6 * (k + 1)))), (0, .ref b), (1, .ref (adC 11 0)), (2, .ref (adM 12 0))]) hx hb dL_law_1594 hl (k := 3) rfl (nI_add (6 * k) 6) (by decide) rfl (fun ls hl => ?_)
  refine lv_goto (tgt := 18) hx hb dL_law_1597 (by decide) ?_
  refine W.widen (k := 82 + 20 * (k + 1)) (n := 9444 + 120 * (k + 1)) (by omega) (by omega) ?_
  exact ih MC' MM' nS nL adC _ _ _ hs2 hC hM hS (lv_sub hl [1, 2, 3, 0] rfl)
set_option maxHeartbeats 4000000 in
set_option maxRecDepth 100000 in
theorem law_case40 {p : Program} {l : Launch} {e : Env} {s : State} {m : MethodId} {below : List Frame} {meth : Method} {c : Code} {D : va_G} {cy : Nat → ClassId} {K : KC} {adM : Nat → Nat → Nat} {b L : Nat} {xs : Nat → Int32} {Sim : Nat → Mem → Mem → Nat → Nat → Prop} (C0 : LwC p l e s m below meth c D cy K adM b L xs) (hs_taken : ∀ (k : Nat) (MC MM : Mem) (nS nL : Nat) (a1 : Int32) (a2 : Int32), k < 64 → Sim k MC MM nS nL → ∃ (r : Int32) (MM' : Mem), fX11_taken a1 a2 MC = some r ∧ fX12_taken a1 a2 MM = some (r, MM') ∧ Sim (k + 1) MC MM' nS nL) (k : Nat) (hk64 : k < 64) (hin : ∀ j : Nat, j < 6 → vp_in (nI (6 * k) + nI j) L) (ih : LwG p l e s m below meth c D cy adM b Sim 18 (k + 1)) : LwG p l e s m below meth c D cy adM b Sim 1538 k := by
  obtain ⟨hx, hb, hml, hown, hts, hX, hbl, hK, hZ, hMb⟩ := C0
  intro MC MM nS nL adC H locs ls hs hC hM hS hl
  have hbA : ¬ (fun q : Nat => s.heap.size ≤ q) b := Nat.not_le.mpr hbl
  have hin1 : vp_in (nI (6 * k) + (1 : Int32)) L := hin 1 (by decide)
  have hin2 : vp_in (nI (6 * k) + (2 : Int32)) L := hin 2 (by decide)
  have hin3 : vp_in (nI (6 * k) + (3 : Int32)) L := hin 3 (by decide)
  have hin4 : vp_in (nI (6 * k) + (4 : Int32)) L := hin 4 (by decide)
  have hin5 : vp_in (nI (6 * k) + (5 : Int32)) L := hin 5 (by decide)
  refine lv_aload_n hx hb dL_law_1538 rfl (lv_at hl 1 rfl) ?_
  refine lv_aload_n hx hb dL_law_1539 rfl (lv_at hl 0 rfl) ?_
  refine lv_iload_n hx hb dL_law_1540 rfl (lv_at hl 3 rfl) ?_
  refine lv_iconst (v := (1 : Int32)) hx hb dL_law_1541 (by decide) ?_
  refine lv_iadd hx hb dL_law_1542 ?_
  refine va_sld hx hb hX hbl hbA hS hin1 dL_law_1543 ?_
  refine lv_aload_n hx hb dL_law_1544 rfl (lv_at hl 0 rfl) ?_
  refine lv_iload_n hx hb dL_law_1545 rfl (lv_at hl 3 rfl) ?_
  refine lv_iconst (v := (2 : Int32)) hx hb dL_law_1546 (by decide) ?_
  refine lv_iadd hx hb dL_law_1547 ?_
  refine va_sld hx hb hX hbl hbA hS hin2 dL_law_1548 ?_
  obtain ⟨r, MM', hc1, hc2, hs2⟩ := hs_taken k MC MM nS nL (xs (nI (6 * k) + (1 : Int32)).toNatClampNeg) (xs (nI (6 * k) + (2 : Int32)).toNatClampNeg) hk64 hs
  refine lw_cCI hx hb hml hown hts hK hZ hS hC hM hMb [.int (xs (nI (6 * k) + (1 : Int32)).toNatClampNeg), .int (xs (nI (6 * k) + (2 : Int32)).toNatClampNeg)] (mX11_taken (l := l) ZC_ok (xs (nI (6 * k) + (1 : Int32)).toNatClampNeg) (xs (nI (6 * k) + (2 : Int32)).toNatClampNeg) MC r hc1) rfl pmX11_taken tw1199 ⟨Nat.le_of_ble_eq_true rfl, Nat.le_of_ble_eq_true rfl⟩ rfl hl.1 (Nat.le_of_ble_eq_true rfl) ⟨(show 82 + 20 * k + 0 ≤ 600000 by omega), (show 9444 + 120 * k + 0 ≤ 7302250 by omega)⟩ rfl dL_law_1549 (fun H locs hC hM hS => ?_)
  refine lv_aload_n hx hb dL_law_1552 rfl (lv_at hl 2 rfl) ?_
  refine lv_aload_n hx hb dL_law_1553 rfl (lv_at hl 0 rfl) ?_
  refine lv_iload_n hx hb dL_law_1554 rfl (lv_at hl 3 rfl) ?_
  refine lv_iconst (v := (1 : Int32)) hx hb dL_law_1555 (by decide) ?_
  refine lv_iadd hx hb dL_law_1556 ?_
  refine va_sld hx hb hX hbl hbA hS hin1 dL_law_1557 ?_
  refine lv_aload_n hx hb dL_law_1558 rfl (lv_at hl 0 rfl) ?_
  refine lv_iload_n hx hb dL_law_1559 rfl (lv_at hl 3 rfl) ?_
  refine lv_iconst (v := (2 : Int32)) hx hb dL_law_1560 (by decide) ?_
  refine lv_iadd hx hb dL_law_1561 ?_
  refine va_sld hx hb hX hbl hbA hS hin2 dL_law_1562 ?_
  refine lw_cMI hx hb hml hown hts hK hZ hS hC hM hMb [.int (xs (nI (6 * k) + (1 : Int32)).toNatClampNeg), .int (xs (nI (6 * k) + (2 : Int32)).toNatClampNeg)] (mX12_taken (l := l) ZT_ok (xs (nI (6 * k) + (1 : Int32)).toNatClampNeg) (xs (nI (6 * k) + (2 : Int32)).toNatClampNeg) MM r MM' hc2) rfl pmX12_taken tw1783 ⟨Nat.le_of_ble_eq_true rfl, Nat.le_of_ble_eq_true rfl⟩ rfl hl.1 (Nat.le_of_ble_eq_true rfl) ⟨(show 82 + 20 * k + 0 ≤ 600000 by omega), (show 9444 + 120 * k + 0 ≤ 7302250 by omega)⟩ rfl dL_law_1563 (fun H locs hC hM hS => ?_)
  refine lv_icmp_eq (tgt := 1594) hx hb dL_law_1566 (by decide) (fun _ => ?_) (fun hc => absurd rfl hc)
  refine lv_iinc (v := nI (6 * (k + 1))) (lv' := [(3, .int (nI (6 * (k + 1)))), (0, .ref b), (1, .ref (adC 11 0)), (2, .ref (adM 12 0))]) hx hb dL_law_1594 hl (k := 3) rfl (nI_add (6 * k) 6) (by decide) rfl (fun ls hl => ?_)
  refine lv_goto (tgt := 18) hx hb dL_law_1597 (by decide) ?_
  refine W.widen (k := 82 + 20 * (k + 1)) (n := 9444 + 120 * (k + 1)) (by omega) (by omega) ?_
  exact ih MC MM' nS nL adC _ _ _ hs2 hC hM hS (lv_sub hl [1, 2, 3, 0] rfl)
set_option maxHeartbeats 4000000 in
set_option maxRecDepth 100000 in
theorem law_case41 {p : Program} {l : Launch} {e : Env} {s : State} {m : MethodId} {below : List Frame} {meth : Method} {c : Code} {D : va_G} {cy : Nat → ClassId} {K : KC} {adM : Nat → Nat → Nat} {b L : Nat} {xs : Nat → Int32} {Sim : Nat → Mem → Mem → Nat → Nat → Prop} (C0 : LwC p l e s m below meth c D cy K adM b L xs) (hs_count : ∀ (k : Nat) (MC MM : Mem) (nS nL : Nat) (a1 : Int32), k < 64 → Sim k MC MM nS nL → ∃ (r : Int32), fX11_count a1 MC = r ∧ fX12_count a1 MM = r ∧ Sim (k + 1) MC MM nS nL) (k : Nat) (hk64 : k < 64) (hin : ∀ j : Nat, j < 6 → vp_in (nI (6 * k) + nI j) L) (ih : LwG p l e s m below meth c D cy adM b Sim 18 (k + 1)) : LwG p l e s m below meth c D cy adM b Sim 1571 k := by
  obtain ⟨hx, hb, hml, hown, hts, hX, hbl, hK, hZ, hMb⟩ := C0
  intro MC MM nS nL adC H locs ls hs hC hM hS hl
  have hbA : ¬ (fun q : Nat => s.heap.size ≤ q) b := Nat.not_le.mpr hbl
  have hin1 : vp_in (nI (6 * k) + (1 : Int32)) L := hin 1 (by decide)
  have hin2 : vp_in (nI (6 * k) + (2 : Int32)) L := hin 2 (by decide)
  have hin3 : vp_in (nI (6 * k) + (3 : Int32)) L := hin 3 (by decide)
  have hin4 : vp_in (nI (6 * k) + (4 : Int32)) L := hin 4 (by decide)
  have hin5 : vp_in (nI (6 * k) + (5 : Int32)) L := hin 5 (by decide)
  refine lv_aload_n hx hb dL_law_1571 rfl (lv_at hl 1 rfl) ?_
  refine lv_aload_n hx hb dL_law_1572 rfl (lv_at hl 0 rfl) ?_
  refine lv_iload_n hx hb dL_law_1573 rfl (lv_at hl 3 rfl) ?_
  refine lv_iconst (v := (1 : Int32)) hx hb dL_law_1574 (by decide) ?_
  refine lv_iadd hx hb dL_law_1575 ?_
  refine va_sld hx hb hX hbl hbA hS hin1 dL_law_1576 ?_
  obtain ⟨r, hc1, hc2, hs2⟩ := hs_count k MC MM nS nL (xs (nI (6 * k) + (1 : Int32)).toNatClampNeg) hk64 hs
  refine lw_cCI hx hb hml hown hts hK hZ hS hC hM hMb [.int (xs (nI (6 * k) + (1 : Int32)).toNatClampNeg)] (mX11_count (l := l) ZC_ok (xs (nI (6 * k) + (1 : Int32)).toNatClampNeg) MC r hc1) rfl pmX11_count tw1211 ⟨Nat.le_of_ble_eq_true rfl, Nat.le_of_ble_eq_true rfl⟩ rfl hl.1 (Nat.le_of_ble_eq_true rfl) ⟨(show 82 + 20 * k + 0 ≤ 600000 by omega), (show 9444 + 120 * k + 0 ≤ 7302250 by omega)⟩ rfl dL_law_1577 (fun H locs hC hM hS => ?_)
  refine lv_aload_n hx hb dL_law_1580 rfl (lv_at hl 2 rfl) ?_
  refine lv_aload_n hx hb dL_law_1581 rfl (lv_at hl 0 rfl) ?_
  refine lv_iload_n hx hb dL_law_1582 rfl (lv_at hl 3 rfl) ?_
  refine lv_iconst (v := (1 : Int32)) hx hb dL_law_1583 (by decide) ?_
  refine lv_iadd hx hb dL_law_1584 ?_
  refine va_sld hx hb hX hbl hbA hS hin1 dL_law_1585 ?_
  refine lw_cMI hx hb hml hown hts hK hZ hS hC hM hMb [.int (xs (nI (6 * k) + (1 : Int32)).toNatClampNeg)] (mX12_count (l := l) ZT_ok (xs (nI (6 * k) + (1 : Int32)).toNatClampNeg) MM r hc2) rfl pmX12_count tw1754 ⟨Nat.le_of_ble_eq_true rfl, Nat.le_of_ble_eq_true rfl⟩ rfl hl.1 (Nat.le_of_ble_eq_true rfl) ⟨(show 82 + 20 * k + 0 ≤ 600000 by omega), (show 9444 + 120 * k + 0 ≤ 7302250 by omega)⟩ rfl dL_law_1586 (fun H locs hC hM hS => ?_)
  refine lv_icmp_eq (tgt := 1594) hx hb dL_law_1589 (by decide) (fun _ => ?_) (fun hc => absurd rfl hc)
  refine lv_iinc (v := nI (6 * (k + 1))) (lv' := [(3, .int (nI (6 * (k + 1)))), (0, .ref b), (1, .ref (adC 11 0)), (2, .ref (adM 12 0))]) hx hb dL_law_1594 hl (k := 3) rfl (nI_add (6 * k) 6) (by decide) rfl (fun ls hl => ?_)
  refine lv_goto (tgt := 18) hx hb dL_law_1597 (by decide) ?_
  refine W.widen (k := 82 + 20 * (k + 1)) (n := 9444 + 120 * (k + 1)) (by omega) (by omega) ?_
  exact ih MC MM nS nL adC _ _ _ hs2 hC hM hS (lv_sub hl [1, 2, 3, 0] rfl)
set_option maxHeartbeats 4000000 in
set_option maxRecDepth 100000 in
theorem law_loop {p : Program} {l : Launch} {e : Env} {s : State} {m : MethodId} {below : List Frame} {meth : Method} {c : Code} {D : va_G} {cy : Nat → ClassId} {K : KC} {adM : Nat → Nat → Nat} {b L : Nat} {xs : Nat → Int32} {Sim : Nat → Mem → Mem → Nat → Nat → Prop} (C0 : LwC p l e s m below meth c D cy K adM b L xs) (hL : L ≤ 384) (hlocks : meth.locks = false) (hr : meth.sig.returnType = ret) (hskip : ∀ (k : Nat) (MC MM : Mem) (nS nL : Nat), Sim k MC MM nS nL → Sim (k + 1) MC MM nS nL) (hs_stone : ∀ (k : Nat) (MC MM : Mem) (nS nL : Nat) (a1 : Int32) (a2 : Int32) (a3 : Int32), k < 64 → Sim k MC MM nS nL → ∃ (r : Int32) (MC' : Mem) (nS' nL' : Nat) (MM' : Mem), fX11_stone nS nL a1 a2 a3 MC = some ((r, nS', nL'), MC') ∧ fX12_stone a1 a2 a3 MM = some (r, MM') ∧ Sim (k + 1) MC' MM' nS' nL') (hs_line : ∀ (k : Nat) (MC MM : Mem) (nS nL : Nat) (a1 : Int32) (a2 : Int32) (a3 : Int32), k < 64 → Sim k MC MM nS nL → ∃ (r : Int32) (MC' : Mem) (nS' nL' : Nat) (MM' : Mem), fX11_line nS nL a1 a2 a3 MC = some ((r, nS', nL'), MC') ∧ fX12_line a1 a2 a3 MM = some (r, MM') ∧ Sim (k + 1) MC' MM' nS' nL') (hs_citings : ∀ (k : Nat) (MC MM : Mem) (nS nL : Nat) (a1 : Int32) (a2 : Int32) (a3 : Int32) (a4 : Int32), k < 64 → Sim k MC MM nS nL → ∃ (r : Int32) (MC' : Mem) (nS' nL' : Nat) (MM' : Mem), fX11_citings nS nL a1 a2 a3 a4 MC = some ((r, nS', nL'), MC') ∧ fX12_citings a1 a2 a3 a4 MM = some (r, MM') ∧ Sim (k + 1) MC' MM' nS' nL') (hs_ofStone : ∀ (k : Nat) (MC MM : Mem) (nS nL : Nat) (a1 : Int32) (a2 : Int32), k < 64 → Sim k MC MM nS nL → ∃ (r : Int32) (MC' : Mem) (MM' : Mem), fX11_ofStone a1 a2 MC = some (r, MC') ∧ fX12_ofStone a1 a2 MM = some (r, MM') ∧ Sim (k + 1) MC' MM' nS nL) (hs_worth : ∀ (k : Nat) (MC MM : Mem) (nS nL : Nat) (a1 : Int32), k < 64 → Sim k MC MM nS nL → ∃ (r : Int32) (MC' : Mem) (MM' : Mem), fX11_worth a1 MC = some (r, MC') ∧ fX12_worth a1 MM = some (r, MM') ∧ Sim (k + 1) MC' MM' nS nL) (hs_says : ∀ (k : Nat) (MC MM : Mem) (nS nL : Nat) (a1 : Int32), k < 64 → Sim k MC MM nS nL → ∃ (r : Int32) (MC' : Mem) (MM' : Mem), fX11_says a1 MC = some (r, MC') ∧ fX12_says a1 MM = some (r, MM') ∧ Sim (k + 1) MC' MM' nS nL) (hs_ofLine : ∀ (k : Nat) (MC MM : Mem) (nS nL : Nat) (a1 : Int32) (a2 : Int32), k < 64 → Sim k MC MM nS nL → ∃ (r : Int32), fX11_ofLine a1 a2 MC = some r ∧ fX12_ofLine a1 a2 MM = some r ∧ Sim (k + 1) MC MM nS nL) (hs_change : ∀ (k : Nat) (MC MM : Mem) (nS nL : Nat) (a1 : Int32) (a2 : Int32) (a3 : Int32), k < 64 → Sim k MC MM nS nL → ∃ (r : Int32) (MC' : Mem) (MM' : Mem), fX11_change a1 a2 a3 MC = some (r, MC') ∧ fX12_change a1 a2 a3 MM = some (r, MM') ∧ Sim (k + 1) MC' MM' nS nL) (hs_take : ∀ (k : Nat) (MC MM : Mem) (nS nL : Nat) (a1 : Int32) (a2 : Int32) (a3 : Int32), k < 64 → Sim k MC MM nS nL → ∃ (r : Int32) (MC' : Mem) (MM' : Mem), fX11_take a1 a2 a3 MC = some (r, MC') ∧ fX12_take a1 a2 a3 MM = some (r, MM') ∧ Sim (k + 1) MC' MM' nS nL) (hs_restore : ∀ (k : Nat) (MC MM : Mem) (nS nL : Nat) (a1 : Int32), k < 64 → Sim k MC MM nS nL → ∃ (r : Int32) (MC' : Mem) (MM' : Mem), fX11_restore a1 MC = some (r, MC') ∧ fX12_restore a1 MM = some (r, MM') ∧ Sim (k + 1) MC' MM' nS nL) (hs_with : ∀ (k : Nat) (MC MM : Mem) (nS nL : Nat) (a1 : Int32) (a2 : Int32) (a3 : Int32), k < 64 → Sim k MC MM nS nL → ∃ (r : Int32) (MC' : Mem) (MM' : Mem), fX11_with a1 a2 a3 MC = some (r, MC') ∧ fX12_with a1 a2 a3 MM = some (r, MM') ∧ Sim (k + 1) MC' MM' nS nL) (hs_falls : ∀ (k : Nat) (MC MM : Mem) (nS nL : Nat) (a1 : Int32) (a2 : Int32), k < 64 → Sim k MC MM nS nL → ∃ (r : Int32) (MC' : Mem) (MM' : Mem), fX11_falls a1 a2 MC = some (r, MC') ∧ fX12_falls a1 a2 MM = some (r, MM') ∧ Sim (k + 1) MC' MM' nS nL) (hs_turned : ∀ (k : Nat) (MC MM : Mem) (nS nL : Nat) (a1 : Int32) (a2 : Int32), k < 64 → Sim k MC MM nS nL → ∃ (r : Int32) (MC' : Mem) (MM' : Mem), fX11_turned a1 a2 MC = some (r, MC') ∧ fX12_turned a1 a2 MM = some (r, MM') ∧ Sim (k + 1) MC' MM' nS nL) (hs_hangs : ∀ (k : Nat) (MC MM : Mem) (nS nL : Nat) (a1 : Int32), k < 64 → Sim k MC MM nS nL → ∃ (r : Int32) (MC' : Mem) (MM' : Mem), fX11_hangs a1 MC = some (r, MC') ∧ fX12_hangs a1 MM = some (r, MM') ∧ Sim (k + 1) MC' MM' nS nL) (hs_hung : ∀ (k : Nat) (MC MM : Mem) (nS nL : Nat) (a1 : Int32), k < 64 → Sim k MC MM nS nL → ∃ (r : Int64) (MC' : Mem) (MM' : Mem), fX11_hung a1 MC = some (r, MC') ∧ fX12_hung a1 MM = some (r, MM') ∧ Sim (k + 1) MC' MM' nS nL) (hs_seed : ∀ (k : Nat) (MC MM : Mem) (nS nL : Nat) (a1 : Int32), k < 64 → Sim k MC MM nS nL → ∃ (r : Int32) (MC' : Mem) (MM' : Mem), fX11_seed a1 MC = some (r, MC') ∧ fX12_seed a1 MM = some (r, MM') ∧ Sim (k + 1) MC' MM' nS nL) (hs_months : ∀ (k : Nat) (MC MM : Mem) (nS nL : Nat) (a1 : Int32), k < 64 → Sim k MC MM nS nL → ∃ (r : Int32) (MC' : Mem) (MM' : Mem), fX11_months a1 MC = some (r, MC') ∧ fX12_months a1 MM = some (r, MM') ∧ Sim (k + 1) MC' MM' nS nL) (hs_feed : ∀ (k : Nat) (MC MM : Mem) (nS nL : Nat) (a1 : Int32) (a2 : Int32), k < 64 → Sim k MC MM nS nL → ∃ (r : Int32) (MC' : Mem) (MM' : Mem), fX11_feed a1 a2 MC = some (r, MC') ∧ fX12_feed a1 a2 MM = some (r, MM') ∧ Sim (k + 1) MC' MM' nS nL) (hs_text : ∀ (k : Nat) (MC MM : Mem) (nS nL : Nat) (a1 : Int32), k < 64 → Sim k MC MM nS nL → ∃ (r : Int32) (MC' : Mem) (MM' : Mem), fX11_text a1 MC = some (r, MC') ∧ fX12_text a1 MM = some (r, MM') ∧ Sim (k + 1) MC' MM' nS nL) (hs_odds : ∀ (k : Nat) (MC MM : Mem) (nS nL : Nat) (a1 : Int32) (a2 : Int32), k < 64 → Sim k MC MM nS nL → ∃ (r : Int32) (MC' : Mem) (MM' : Mem), fX11_odds a1 a2 MC = some (r, MC') ∧ fX12_odds a1 a2 MM = some (r, MM') ∧ Sim (k + 1) MC' MM' nS nL) (hs_letter : ∀ (k : Nat) (MC MM : Mem) (nS nL : Nat) (a1 : Int32), k < 64 → Sim k MC MM nS nL → ∃ (r : Int32) (MC' : Mem) (MM' : Mem), fX11_letter a1 MC = some (r, MC') ∧ fX12_letter a1 MM = some (r, MM') ∧ Sim (k + 1) MC' MM' nS nL) (hs_copy : ∀ (k : Nat) (MC MM : Mem) (nS nL : Nat) (a1 : Int32) (a2 : Int32), k < 64 → Sim k MC MM nS nL → ∃ (r : Int32) (MC' : Mem) (MM' : Mem), fX11_copy a1 a2 MC = some (r, MC') ∧ fX12_copy a1 a2 MM = some (r, MM') ∧ Sim (k + 1) MC' MM' nS nL) (hs_mark : ∀ (k : Nat) (MC MM : Mem) (nS nL : Nat) (a1 : Int32) (a2 : Int32), k < 64 → Sim k MC MM nS nL → ∃ (r : Int32) (MC' : Mem) (MM' : Mem), fX11_mark a1 a2 MC = some (r, MC') ∧ fX12_mark a1 a2 MM = some (r, MM') ∧ Sim (k + 1) MC' MM' nS nL) (hs_lacks : ∀ (k : Nat) (MC MM : Mem) (nS nL : Nat) (a1 : Int32), k < 64 → Sim k MC MM nS nL → ∃ (r : Int32), fX11_lacks a1 MC = some r ∧ fX12_lacks a1 MM = some r ∧ Sim (k + 1) MC MM nS nL) (hs_tell : ∀ (k : Nat) (MC MM : Mem) (nS nL : Nat) (a1 : Int32) (a2 : Int32), k < 64 → Sim k MC MM nS nL → ∃ (r : Int32) (MC' : Mem) (MM' : Mem), fX11_tell a1 a2 MC = some (r, MC') ∧ fX12_tell a1 a2 MM = some (r, MM') ∧ Sim (k + 1) MC' MM' nS nL) (hs_land : ∀ (k : Nat) (MC MM : Mem) (nS nL : Nat) (a1 : Int32), k < 64 → Sim k MC MM nS nL → ∃ (r : Int32) (MC' : Mem) (MM' : Mem), fX11_land a1 MC = some (r, MC') ∧ fX12_land a1 MM = some (r, MM') ∧ Sim (k + 1) MC' MM' nS nL) (hs_name : ∀ (k : Nat) (MC MM : Mem) (nS nL : Nat) (a1 : Int32) (a2 : Int32) (a3 : Int32), k < 64 → Sim k MC MM nS nL → ∃ (r : Int32) (MC' : Mem) (MM' : Mem), fX11_name a1 a2 a3 MC = some (r, MC') ∧ fX12_name a1 a2 a3 MM = some (r, MM') ∧ Sim (k + 1) MC' MM' nS nL) (hs_share : ∀ (k : Nat) (MC MM : Mem) (nS nL : Nat) (a1 : Int32) (a2 : Int32), k < 64 → Sim k MC MM nS nL → ∃ (r : Int32), fX11_share a1 a2 MC = some r ∧ fX12_share a1 a2 MM = some r ∧ Sim (k + 1) MC MM nS nL) (hs_hands : ∀ (k : Nat) (MC MM : Mem) (nS nL : Nat) (a1 : Int32) (a2 : Int32), k < 64 → Sim k MC MM nS nL → ∃ (r : Int32) (MC' : Mem) (MM' : Mem), fX11_hands a1 a2 MC = some (r, MC') ∧ fX12_hands a1 a2 MM = some (r, MM') ∧ Sim (k + 1) MC' MM' nS nL) (hs_fair : ∀ (k : Nat) (MC MM : Mem) (nS nL : Nat) (a1 : Int32), k < 64 → Sim k MC MM nS nL → ∃ (r : Int32), fX11_fair a1 MC = some r ∧ fX12_fair a1 MM = some r ∧ Sim (k + 1) MC MM nS nL) (hs_span : ∀ (k : Nat) (MC MM : Mem) (nS nL : Nat) (a1 : Int32) (a2 : Int32), k < 64 → Sim k MC MM nS nL → ∃ (r : Int32), fX11_span a1 a2 MC = some r ∧ fX12_span a1 a2 MM = some r ∧ Sim (k + 1) MC MM nS nL) (hs_undo : ∀ (k : Nat) (MC MM : Mem) (nS nL : Nat) , k < 64 → Sim k MC MM nS nL → ∃ (r : Int32) (MC' : Mem) (MM' : Mem), fX11_undo  MC = some (r, MC') ∧ fX12_undo  MM = some (r, MM') ∧ Sim (k + 1) MC' MM' nS nL) (hs_redo : ∀ (k : Nat) (MC MM : Mem) (nS nL : Nat) , k < 64 → Sim k MC MM nS nL → ∃ (r : Int32) (MC' : Mem) (MM' : Mem), fX11_redo  MC = some (r, MC') ∧ fX12_redo  MM = some (r, MM') ∧ Sim (k + 1) MC' MM' nS nL) (hs_act : ∀ (k : Nat) (MC MM : Mem) (nS nL : Nat) (a1 : Int32) (a2 : Int32) (a3 : Int32), k < 64 → Sim k MC MM nS nL → ∃ (r : Int32) (MC' : Mem) (MM' : Mem), fX11_act a1 a2 a3 MC = some (r, MC') ∧ fX12_act a1 a2 a3 MM = some (r, MM') ∧ Sim (k + 1) MC' MM' nS nL) (hs_trace : ∀ (k : Nat) (MC MM : Mem) (nS nL : Nat) (a1 : Int32), k < 64 → Sim k MC MM nS nL → ∃ (r : Int32), fX11_trace a1 MC = some r ∧ fX12_trace a1 MM = some r ∧ Sim (k + 1) MC MM nS nL) (hs_keep : ∀ (k : Nat) (MC MM : Mem) (nS nL : Nat) (a1 : Int32) (a2 : Int32), k < 64 → Sim k MC MM nS nL → ∃ (r : Int32) (MC' : Mem) (MM' : Mem), fX11_keep a1 a2 MC = some (r, MC') ∧ fX12_keep a1 a2 MM = some (r, MM') ∧ Sim (k + 1) MC' MM' nS nL) (hs_row : ∀ (k : Nat) (MC MM : Mem) (nS nL : Nat) (a1 : Int32) (a2 : Int32) (a3 : Int32), k < 64 → Sim k MC MM nS nL → ∃ (r : Int32) (MC' : Mem) (MM' : Mem), fX11_row a1 a2 a3 MC = some (r, MC') ∧ fX12_row a1 a2 a3 MM = some (r, MM') ∧ Sim (k + 1) MC' MM' nS nL) (hs_put : ∀ (k : Nat) (MC MM : Mem) (nS nL : Nat) (a1 : Int32) (a2 : Int32) (a3 : Int64), k < 64 → Sim k MC MM nS nL → ∃ (r : Int32) (MC' : Mem) (MM' : Mem), fX11_put a1 a2 a3 MC = some (r, MC') ∧ fX12_put a1 a2 a3 MM = some (r, MM') ∧ Sim (k + 1) MC' MM' nS nL) (hs_element : ∀ (k : Nat) (MC MM : Mem) (nS nL : Nat) (a1 : Int32) (a2 : Int32), k < 64 → Sim k MC MM nS nL → ∃ (r : Int64), fX11_element a1 a2 MC = some r ∧ fX12_element a1 a2 MM = some r ∧ Sim (k + 1) MC MM nS nL) (hs_shift : ∀ (k : Nat) (MC MM : Mem) (nS nL : Nat) (a1 : Int32) (a2 : Int32) (a3 : Int32) (a4 : Int32) (a5 : Int32), k < 64 → Sim k MC MM nS nL → ∃ (r : Int32) (MC' : Mem) (MM' : Mem), fX11_shift a1 a2 a3 a4 a5 MC = some (r, MC') ∧ fX12_shift a1 a2 a3 a4 a5 MM = some (r, MM') ∧ Sim (k + 1) MC' MM' nS nL) (hs_taken : ∀ (k : Nat) (MC MM : Mem) (nS nL : Nat) (a1 : Int32) (a2 : Int32), k < 64 → Sim k MC MM nS nL → ∃ (r : Int32) (MM' : Mem), fX11_taken a1 a2 MC = some r ∧ fX12_taken a1 a2 MM = some (r, MM') ∧ Sim (k + 1) MC MM' nS nL) (hs_count : ∀ (k : Nat) (MC MM : Mem) (nS nL : Nat) (a1 : Int32), k < 64 → Sim k MC MM nS nL → ∃ (r : Int32), fX11_count a1 MC = r ∧ fX12_count a1 MM = r ∧ Sim (k + 1) MC MM nS nL) : ∀ (n k : Nat), 6 * k ≤ L → 64 ≤ k + n → LwG p l e s m below meth c D cy adM b Sim 18 k := by
  have C1 := C0
  obtain ⟨hx, hb, hml, hown, hts, hX, hbl, hK, hZ, hMb⟩ := C0
  have hbA : ¬ (fun q : Nat => s.heap.size ≤ q) b := Nat.not_le.mpr hbl
  intro n
  induction n with
  | zero =>
    intro k h1 h2 MC MM nS nL adC H locs ls hs hC hM hS hl
    have hk : k = 64 := by omega
    subst hk
    refine lv_iload_n hx hb dL_law_18 rfl (lv_at hl 3 rfl) ?_
    refine lv_aload_n hx hb dL_law_19 rfl (lv_at hl 0 rfl) ?_
    refine va_slen hx hb hX hbl hbA hS dL_law_20 ?_
    refine lv_bipush (v := (6 : Int32)) hx hb dL_law_21 (by decide) ?_
    refine lv_isub hx hb dL_law_23 ?_
    refine lv_icmp_gt (tgt := 1600) hx hb dL_law_24 (by decide) (fun _ => ?_) (fun h => absurd (law_gt hL h1 (by omega)) h)
    refine lv_iconst (v := (1 : Int32)) hx hb dL_law_1600 (by decide) ?_
    refine va_forget (fun q hq => hS.2.2 q hq) ?_
    refine W.widen (k := 600000) (n := 7302250) (by omega) (by omega) ?_
    exact lw_ret hx hb hr hlocks dL_law_1601
  | succ n ih0 =>
    intro k h1 h2 MC MM nS nL adC H locs ls hs hC hM hS hl
    refine lv_iload_n hx hb dL_law_18 rfl (lv_at hl 3 rfl) ?_
    refine lv_aload_n hx hb dL_law_19 rfl (lv_at hl 0 rfl) ?_
    refine va_slen hx hb hX hbl hbA hS dL_law_20 ?_
    refine lv_bipush (v := (6 : Int32)) hx hb dL_law_21 (by decide) ?_
    refine lv_isub hx hb dL_law_23 ?_
    by_cases hlt : L < 6 * k + 6
    · refine lv_icmp_gt (tgt := 1600) hx hb dL_law_24 (by decide) (fun _ => ?_) (fun h => absurd (law_gt hL h1 hlt) h)
      refine lv_iconst (v := (1 : Int32)) hx hb dL_law_1600 (by decide) ?_
      refine va_forget (fun q hq => hS.2.2 q hq) ?_
      refine W.widen (k := 600000) (n := 7302250) (by omega) (by omega) ?_
      exact lw_ret hx hb hr hlocks dL_law_1601
    · have hk64 : k < 64 := by omega
      have ih : LwG p l e s m below meth c D cy adM b Sim 18 (k + 1) := ih0 (k + 1) (by omega) (by omega)
      refine lv_icmp_gt (tgt := 1600) hx hb dL_law_24 (by decide) (fun h => absurd h (law_ngt hL (by omega))) (fun _ => ?_)
      have hin : ∀ j : Nat, j < 6 → vp_in (nI (6 * k) + nI j) L := fun j hj => by rw [nI_add]; exact vp_in_nI (by omega) (by omega)
      have hin0 : vp_in (nI (6 * k)) L := vp_in_nI (by omega) (by omega)
      refine lv_aload_n hx hb dL_law_27 rfl (lv_at hl 0 rfl) ?_
      refine lv_iload_n hx hb dL_law_28 rfl (lv_at hl 3 rfl) ?_
      refine va_sld hx hb hX hbl hbA hS hin0 dL_law_29 ?_
      refine lv_bipush (v := (63 : Int32)) hx hb dL_law_30 (by decide) ?_
      refine lv_iand hx hb dL_law_32 ?_
      refine lv_topi (fun v ev => ?_)
      by_cases c0 : v = (0 : Int32)
      · refine lv_tableIn (off := 183) (tgt := 216) hx hb dL_law_33 (by rw [c0]; decide) (by rw [c0]; decide) (by rw [c0]; rfl) (by decide) ?_
        exact law_case0 C1 hs_stone k hk64 hin ih MC MM nS nL adC H locs ls hs hC hM hS hl
      by_cases c1 : v = (1 : Int32)
      · refine lv_tableIn (off := 226) (tgt := 259) hx hb dL_law_33 (by rw [c1]; decide) (by rw [c1]; decide) (by rw [c1]; rfl) (by decide) ?_
        exact law_case1 C1 hs_line k hk64 hin ih MC MM nS nL adC H locs ls hs hC hM hS hl
      by_cases c2 : v = (2 : Int32)
      · refine lv_tableIn (off := 269) (tgt := 302) hx hb dL_law_33 (by rw [c2]; decide) (by rw [c2]; decide) (by rw [c2]; rfl) (by decide) ?_
        exact law_case2 C1 hs_citings k hk64 hin ih MC MM nS nL adC H locs ls hs hC hM hS hl
      by_cases c3 : v = (3 : Int32)
      · refine lv_tableIn (off := 322) (tgt := 355) hx hb dL_law_33 (by rw [c3]; decide) (by rw [c3]; decide) (by rw [c3]; rfl) (by decide) ?_
        exact law_case3 C1 hs_ofStone k hk64 hin ih MC MM nS nL adC H locs ls hs hC hM hS hl
      by_cases c4 : v = (4 : Int32)
      · refine lv_tableIn (off := 355) (tgt := 388) hx hb dL_law_33 (by rw [c4]; decide) (by rw [c4]; decide) (by rw [c4]; rfl) (by decide) ?_
        exact law_case4 C1 hs_worth k hk64 hin ih MC MM nS nL adC H locs ls hs hC hM hS hl
      by_cases c5 : v = (5 : Int32)
      · refine lv_tableIn (off := 378) (tgt := 411) hx hb dL_law_33 (by rw [c5]; decide) (by rw [c5]; decide) (by rw [c5]; rfl) (by decide) ?_
        exact law_case5 C1 hs_says k hk64 hin ih MC MM nS nL adC H locs ls hs hC hM hS hl
      by_cases c6 : v = (6 : Int32)
      · refine lv_tableIn (off := 401) (tgt := 434) hx hb dL_law_33 (by rw [c6]; decide) (by rw [c6]; decide) (by rw [c6]; rfl) (by decide) ?_
        exact law_case6 C1 hs_ofLine k hk64 hin ih MC MM nS nL adC H locs ls hs hC hM hS hl
      by_cases c7 : v = (7 : Int32)
      · refine lv_tableIn (off := 434) (tgt := 467) hx hb dL_law_33 (by rw [c7]; decide) (by rw [c7]; decide) (by rw [c7]; rfl) (by decide) ?_
        exact law_case7 C1 hs_change k hk64 hin ih MC MM nS nL adC H locs ls hs hC hM hS hl
      by_cases c8 : v = (8 : Int32)
      · refine lv_tableIn (off := 477) (tgt := 510) hx hb dL_law_33 (by rw [c8]; decide) (by rw [c8]; decide) (by rw [c8]; rfl) (by decide) ?_
        exact law_case8 C1 hs_take k hk64 hin ih MC MM nS nL adC H locs ls hs hC hM hS hl
      by_cases c9 : v = (9 : Int32)
      · refine lv_tableIn (off := 520) (tgt := 553) hx hb dL_law_33 (by rw [c9]; decide) (by rw [c9]; decide) (by rw [c9]; rfl) (by decide) ?_
        exact law_case9 C1 hs_restore k hk64 hin ih MC MM nS nL adC H locs ls hs hC hM hS hl
      by_cases c10 : v = (10 : Int32)
      · refine lv_tableIn (off := 543) (tgt := 576) hx hb dL_law_33 (by rw [c10]; decide) (by rw [c10]; decide) (by rw [c10]; rfl) (by decide) ?_
        exact law_case10 C1 hs_with k hk64 hin ih MC MM nS nL adC H locs ls hs hC hM hS hl
      by_cases c11 : v = (11 : Int32)
      · refine lv_tableIn (off := 586) (tgt := 619) hx hb dL_law_33 (by rw [c11]; decide) (by rw [c11]; decide) (by rw [c11]; rfl) (by decide) ?_
        exact law_case11 C1 hs_falls k hk64 hin ih MC MM nS nL adC H locs ls hs hC hM hS hl
      by_cases c12 : v = (12 : Int32)
      · refine lv_tableIn (off := 619) (tgt := 652) hx hb dL_law_33 (by rw [c12]; decide) (by rw [c12]; decide) (by rw [c12]; rfl) (by decide) ?_
        exact law_case12 C1 hs_turned k hk64 hin ih MC MM nS nL adC H locs ls hs hC hM hS hl
      by_cases c13 : v = (13 : Int32)
      · refine lv_tableIn (off := 652) (tgt := 685) hx hb dL_law_33 (by rw [c13]; decide) (by rw [c13]; decide) (by rw [c13]; rfl) (by decide) ?_
        exact law_case13 C1 hs_hangs k hk64 hin ih MC MM nS nL adC H locs ls hs hC hM hS hl
      by_cases c14 : v = (14 : Int32)
      · refine lv_tableIn (off := 675) (tgt := 708) hx hb dL_law_33 (by rw [c14]; decide) (by rw [c14]; decide) (by rw [c14]; rfl) (by decide) ?_
        exact law_case14 C1 hs_hung k hk64 hin ih MC MM nS nL adC H locs ls hs hC hM hS hl
      by_cases c15 : v = (15 : Int32)
      · refine lv_tableIn (off := 699) (tgt := 732) hx hb dL_law_33 (by rw [c15]; decide) (by rw [c15]; decide) (by rw [c15]; rfl) (by decide) ?_
        exact law_case15 C1 hs_seed k hk64 hin ih MC MM nS nL adC H locs ls hs hC hM hS hl
      by_cases c16 : v = (16 : Int32)
      · refine lv_tableIn (off := 722) (tgt := 755) hx hb dL_law_33 (by rw [c16]; decide) (by rw [c16]; decide) (by rw [c16]; rfl) (by decide) ?_
        exact law_case16 C1 hs_months k hk64 hin ih MC MM nS nL adC H locs ls hs hC hM hS hl
      by_cases c17 : v = (17 : Int32)
      · refine lv_tableIn (off := 745) (tgt := 778) hx hb dL_law_33 (by rw [c17]; decide) (by rw [c17]; decide) (by rw [c17]; rfl) (by decide) ?_
        exact law_case17 C1 hs_feed k hk64 hin ih MC MM nS nL adC H locs ls hs hC hM hS hl
      by_cases c18 : v = (18 : Int32)
      · refine lv_tableIn (off := 778) (tgt := 811) hx hb dL_law_33 (by rw [c18]; decide) (by rw [c18]; decide) (by rw [c18]; rfl) (by decide) ?_
        exact law_case18 C1 hs_text k hk64 hin ih MC MM nS nL adC H locs ls hs hC hM hS hl
      by_cases c19 : v = (19 : Int32)
      · refine lv_tableIn (off := 801) (tgt := 834) hx hb dL_law_33 (by rw [c19]; decide) (by rw [c19]; decide) (by rw [c19]; rfl) (by decide) ?_
        exact law_case19 C1 hs_odds k hk64 hin ih MC MM nS nL adC H locs ls hs hC hM hS hl
      by_cases c20 : v = (20 : Int32)
      · refine lv_tableIn (off := 834) (tgt := 867) hx hb dL_law_33 (by rw [c20]; decide) (by rw [c20]; decide) (by rw [c20]; rfl) (by decide) ?_
        exact law_case20 C1 hs_letter k hk64 hin ih MC MM nS nL adC H locs ls hs hC hM hS hl
      by_cases c21 : v = (21 : Int32)
      · refine lv_tableIn (off := 857) (tgt := 890) hx hb dL_law_33 (by rw [c21]; decide) (by rw [c21]; decide) (by rw [c21]; rfl) (by decide) ?_
        exact law_case21 C1 hs_copy k hk64 hin ih MC MM nS nL adC H locs ls hs hC hM hS hl
      by_cases c22 : v = (22 : Int32)
      · refine lv_tableIn (off := 890) (tgt := 923) hx hb dL_law_33 (by rw [c22]; decide) (by rw [c22]; decide) (by rw [c22]; rfl) (by decide) ?_
        exact law_case22 C1 hs_mark k hk64 hin ih MC MM nS nL adC H locs ls hs hC hM hS hl
      by_cases c23 : v = (23 : Int32)
      · refine lv_tableIn (off := 923) (tgt := 956) hx hb dL_law_33 (by rw [c23]; decide) (by rw [c23]; decide) (by rw [c23]; rfl) (by decide) ?_
        exact law_case23 C1 hs_lacks k hk64 hin ih MC MM nS nL adC H locs ls hs hC hM hS hl
      by_cases c24 : v = (24 : Int32)
      · refine lv_tableIn (off := 946) (tgt := 979) hx hb dL_law_33 (by rw [c24]; decide) (by rw [c24]; decide) (by rw [c24]; rfl) (by decide) ?_
        exact law_case24 C1 hs_tell k hk64 hin ih MC MM nS nL adC H locs ls hs hC hM hS hl
      by_cases c25 : v = (25 : Int32)
      · refine lv_tableIn (off := 979) (tgt := 1012) hx hb dL_law_33 (by rw [c25]; decide) (by rw [c25]; decide) (by rw [c25]; rfl) (by decide) ?_
        exact law_case25 C1 hs_land k hk64 hin ih MC MM nS nL adC H locs ls hs hC hM hS hl
      by_cases c26 : v = (26 : Int32)
      · refine lv_tableIn (off := 1002) (tgt := 1035) hx hb dL_law_33 (by rw [c26]; decide) (by rw [c26]; decide) (by rw [c26]; rfl) (by decide) ?_
        exact law_case26 C1 hs_name k hk64 hin ih MC MM nS nL adC H locs ls hs hC hM hS hl
      by_cases c27 : v = (27 : Int32)
      · refine lv_tableIn (off := 1045) (tgt := 1078) hx hb dL_law_33 (by rw [c27]; decide) (by rw [c27]; decide) (by rw [c27]; rfl) (by decide) ?_
        exact law_case27 C1 hs_share k hk64 hin ih MC MM nS nL adC H locs ls hs hC hM hS hl
      by_cases c28 : v = (28 : Int32)
      · refine lv_tableIn (off := 1078) (tgt := 1111) hx hb dL_law_33 (by rw [c28]; decide) (by rw [c28]; decide) (by rw [c28]; rfl) (by decide) ?_
        exact law_case28 C1 hs_hands k hk64 hin ih MC MM nS nL adC H locs ls hs hC hM hS hl
      by_cases c29 : v = (29 : Int32)
      · refine lv_tableIn (off := 1111) (tgt := 1144) hx hb dL_law_33 (by rw [c29]; decide) (by rw [c29]; decide) (by rw [c29]; rfl) (by decide) ?_
        exact law_case29 C1 hs_fair k hk64 hin ih MC MM nS nL adC H locs ls hs hC hM hS hl
      by_cases c30 : v = (30 : Int32)
      · refine lv_tableIn (off := 1134) (tgt := 1167) hx hb dL_law_33 (by rw [c30]; decide) (by rw [c30]; decide) (by rw [c30]; rfl) (by decide) ?_
        exact law_case30 C1 hs_span k hk64 hin ih MC MM nS nL adC H locs ls hs hC hM hS hl
      by_cases c31 : v = (31 : Int32)
      · refine lv_tableIn (off := 1167) (tgt := 1200) hx hb dL_law_33 (by rw [c31]; decide) (by rw [c31]; decide) (by rw [c31]; rfl) (by decide) ?_
        exact law_case31 C1 hs_undo k hk64 hin ih MC MM nS nL adC H locs ls hs hC hM hS hl
      by_cases c32 : v = (32 : Int32)
      · refine lv_tableIn (off := 1180) (tgt := 1213) hx hb dL_law_33 (by rw [c32]; decide) (by rw [c32]; decide) (by rw [c32]; rfl) (by decide) ?_
        exact law_case32 C1 hs_redo k hk64 hin ih MC MM nS nL adC H locs ls hs hC hM hS hl
      by_cases c33 : v = (33 : Int32)
      · refine lv_tableIn (off := 1193) (tgt := 1226) hx hb dL_law_33 (by rw [c33]; decide) (by rw [c33]; decide) (by rw [c33]; rfl) (by decide) ?_
        exact law_case33 C1 hs_act k hk64 hin ih MC MM nS nL adC H locs ls hs hC hM hS hl
      by_cases c34 : v = (34 : Int32)
      · refine lv_tableIn (off := 1236) (tgt := 1269) hx hb dL_law_33 (by rw [c34]; decide) (by rw [c34]; decide) (by rw [c34]; rfl) (by decide) ?_
        exact law_case34 C1 hs_trace k hk64 hin ih MC MM nS nL adC H locs ls hs hC hM hS hl
      by_cases c35 : v = (35 : Int32)
      · refine lv_tableIn (off := 1259) (tgt := 1292) hx hb dL_law_33 (by rw [c35]; decide) (by rw [c35]; decide) (by rw [c35]; rfl) (by decide) ?_
        exact law_case35 C1 hs_keep k hk64 hin ih MC MM nS nL adC H locs ls hs hC hM hS hl
      by_cases c36 : v = (36 : Int32)
      · refine lv_tableIn (off := 1292) (tgt := 1325) hx hb dL_law_33 (by rw [c36]; decide) (by rw [c36]; decide) (by rw [c36]; rfl) (by decide) ?_
        exact law_case36 C1 hs_row k hk64 hin ih MC MM nS nL adC H locs ls hs hC hM hS hl
      by_cases c37 : v = (37 : Int32)
      · refine lv_tableIn (off := 1335) (tgt := 1368) hx hb dL_law_33 (by rw [c37]; decide) (by rw [c37]; decide) (by rw [c37]; rfl) (by decide) ?_
        exact law_case37 C1 hs_put k hk64 hin ih MC MM nS nL adC H locs ls hs hC hM hS hl
      by_cases c38 : v = (38 : Int32)
      · refine lv_tableIn (off := 1408) (tgt := 1441) hx hb dL_law_33 (by rw [c38]; decide) (by rw [c38]; decide) (by rw [c38]; rfl) (by decide) ?_
        exact law_case38 C1 hs_element k hk64 hin ih MC MM nS nL adC H locs ls hs hC hM hS hl
      by_cases c39 : v = (39 : Int32)
      · refine lv_tableIn (off := 1442) (tgt := 1475) hx hb dL_law_33 (by rw [c39]; decide) (by rw [c39]; decide) (by rw [c39]; rfl) (by decide) ?_
        exact law_case39 C1 hs_shift k hk64 hin ih MC MM nS nL adC H locs ls hs hC hM hS hl
      by_cases c40 : v = (40 : Int32)
      · refine lv_tableIn (off := 1505) (tgt := 1538) hx hb dL_law_33 (by rw [c40]; decide) (by rw [c40]; decide) (by rw [c40]; rfl) (by decide) ?_
        exact law_case40 C1 hs_taken k hk64 hin ih MC MM nS nL adC H locs ls hs hC hM hS hl
      by_cases c41 : v = (41 : Int32)
      · refine lv_tableIn (off := 1538) (tgt := 1571) hx hb dL_law_33 (by rw [c41]; decide) (by rw [c41]; decide) (by rw [c41]; rfl) (by decide) ?_
        exact law_case41 C1 hs_count k hk64 hin ih MC MM nS nL adC H locs ls hs hC hM hS hl
      refine lv_tableOut (tgt := 1594) hx hb dL_law_33 (sw_out v (by decide) (fun z h1 h2 => by
        rcases (show z = 0 ∨ z = 1 ∨ z = 2 ∨ z = 3 ∨ z = 4 ∨ z = 5 ∨ z = 6 ∨ z = 7 ∨ z = 8 ∨ z = 9 ∨ z = 10 ∨ z = 11 ∨ z = 12 ∨ z = 13 ∨ z = 14 ∨ z = 15 ∨ z = 16 ∨ z = 17 ∨ z = 18 ∨ z = 19 ∨ z = 20 ∨ z = 21 ∨ z = 22 ∨ z = 23 ∨ z = 24 ∨ z = 25 ∨ z = 26 ∨ z = 27 ∨ z = 28 ∨ z = 29 ∨ z = 30 ∨ z = 31 ∨ z = 32 ∨ z = 33 ∨ z = 34 ∨ z = 35 ∨ z = 36 ∨ z = 37 ∨ z = 38 ∨ z = 39 ∨ z = 40 ∨ z = 41 by omega) with rfl | rfl | rfl | rfl | rfl | rfl | rfl | rfl | rfl | rfl | rfl | rfl | rfl | rfl | rfl | rfl | rfl | rfl | rfl | rfl | rfl | rfl | rfl | rfl | rfl | rfl | rfl | rfl | rfl | rfl | rfl | rfl | rfl | rfl | rfl | rfl | rfl | rfl | rfl | rfl | rfl | rfl <;> first | exact fun e => c0 (Int32.toInt_inj.mp (e.trans (by decide))) | exact fun e => c1 (Int32.toInt_inj.mp (e.trans (by decide))) | exact fun e => c2 (Int32.toInt_inj.mp (e.trans (by decide))) | exact fun e => c3 (Int32.toInt_inj.mp (e.trans (by decide))) | exact fun e => c4 (Int32.toInt_inj.mp (e.trans (by decide))) | exact fun e => c5 (Int32.toInt_inj.mp (e.trans (by decide))) | exact fun e => c6 (Int32.toInt_inj.mp (e.trans (by decide))) | exact fun e => c7 (Int32.toInt_inj.mp (e.trans (by decide))) | exact fun e => c8 (Int32.toInt_inj.mp (e.trans (by decide))) | exact fun e => c9 (Int32.toInt_inj.mp (e.trans (by decide))) | exact fun e => c10 (Int32.toInt_inj.mp (e.trans (by decide))) | exact fun e => c11 (Int32.toInt_inj.mp (e.trans (by decide))) | exact fun e => c12 (Int32.toInt_inj.mp (e.trans (by decide))) | exact fun e => c13 (Int32.toInt_inj.mp (e.trans (by decide))) | exact fun e => c14 (Int32.toInt_inj.mp (e.trans (by decide))) | exact fun e => c15 (Int32.toInt_inj.mp (e.trans (by decide))) | exact fun e => c16 (Int32.toInt_inj.mp (e.trans (by decide))) | exact fun e => c17 (Int32.toInt_inj.mp (e.trans (by decide))) | exact fun e => c18 (Int32.toInt_inj.mp (e.trans (by decide))) | exact fun e => c19 (Int32.toInt_inj.mp (e.trans (by decide))) | exact fun e => c20 (Int32.toInt_inj.mp (e.trans (by decide))) | exact fun e => c21 (Int32.toInt_inj.mp (e.trans (by decide))) | exact fun e => c22 (Int32.toInt_inj.mp (e.trans (by decide))) | exact fun e => c23 (Int32.toInt_inj.mp (e.trans (by decide))) | exact fun e => c24 (Int32.toInt_inj.mp (e.trans (by decide))) | exact fun e => c25 (Int32.toInt_inj.mp (e.trans (by decide))) | exact fun e => c26 (Int32.toInt_inj.mp (e.trans (by decide))) | exact fun e => c27 (Int32.toInt_inj.mp (e.trans (by decide))) | exact fun e => c28 (Int32.toInt_inj.mp (e.trans (by decide))) | exact fun e => c29 (Int32.toInt_inj.mp (e.trans (by decide))) | exact fun e => c30 (Int32.toInt_inj.mp (e.trans (by decide))) | exact fun e => c31 (Int32.toInt_inj.mp (e.trans (by decide))) | exact fun e => c32 (Int32.toInt_inj.mp (e.trans (by decide))) | exact fun e => c33 (Int32.toInt_inj.mp (e.trans (by decide))) | exact fun e => c34 (Int32.toInt_inj.mp (e.trans (by decide))) | exact fun e => c35 (Int32.toInt_inj.mp (e.trans (by decide))) | exact fun e => c36 (Int32.toInt_inj.mp (e.trans (by decide))) | exact fun e => c37 (Int32.toInt_inj.mp (e.trans (by decide))) | exact fun e => c38 (Int32.toInt_inj.mp (e.trans (by decide))) | exact fun e => c39 (Int32.toInt_inj.mp (e.trans (by decide))) | exact fun e => c40 (Int32.toInt_inj.mp (e.trans (by decide))) | exact fun e => c41 (Int32.toInt_inj.mp (e.trans (by decide))))) (by decide) ?_
      refine lv_iinc (v := nI (6 * (k + 1))) (lv' := [(3, .int (nI (6 * (k + 1)))), (0, .ref b), (1, .ref (adC 11 0)), (2, .ref (adM 12 0))]) hx hb dL_law_1594 hl (k := 3) rfl (nI_add (6 * k) 6) (by decide) rfl (fun ls hl => ?_)
      refine lv_goto (tgt := 18) hx hb dL_law_1597 (by decide) ?_
      refine W.widen (k := 82 + 20 * (k + 1)) (n := 9444 + 120 * (k + 1)) (by omega) (by omega) ?_
      exact ih MC MM nS nL adC _ _ _ (hskip k MC MM nS nL hs) hC hM hS (lv_sub hl [1, 2, 3, 0] rfl)
