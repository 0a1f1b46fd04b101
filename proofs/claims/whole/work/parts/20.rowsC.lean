section RWc
variable {p : Program} {l : Launch} {e : Env} {R : Room} {s : State} {m : MethodId} {args : Array Value} {below : List Frame} {meth : Method} {c : Code} {H : Heap} {locs : List Loc} {cells slots : Nat} {Q : State → Prop}
variable {cc : ByteArray} {pc : Nat} {ls : Array Slot} {rest : List Value} {D : va_G} {cy : Nat → ClassId} {A : Nat → Prop} {cn : Nat → Nat} {ad : Nat → Nat → Nat} {M : Mem}
theorem tb_Tbald (hx : p.tables.exec = Jvm.exec) (hb : c.code = cc) {t0 n : Nat} {f : Nat → Int32} (hT : va_T .byte t0 n (fun j => .int (f j)) A s s.heap) (hS : va_S A s.heap H locs) {x : Int32} (hin : vp_in x n) (hdg : decode cc pc = .ok (.baload, 1)) (kk : W p l e R s m args below meth c H locs cells slots Q (F0 m (pc + 1) ls (.int (f x.toNatClampNeg) :: rest))) : W p l e R s m args below meth c H locs cells slots Q (F0 m pc ls (.int x :: .ref t0 :: rest)) := by
  obtain ⟨cell, h1, h2, h3, h4, -, h5, h6⟩ := hT
  have hlt : x.toNatClampNeg < n := Nat.not_le.mp fun q => hin (Or.inr q)
  have h0 : H[t0]? = some cell := (hS.2.1 t0 (Array.getElem?_eq_some_iff.mp h1).1 h6).trans h1
  exact W.bald (v := .int (f x.toNatClampNeg)) hx hb h0 h2 h3 (fun q => q.elim (fun a => hin (Or.inl a)) (fun a => absurd (Nat.le_trans h4 a) (Nat.not_le.mpr hlt))) (h5 _ hlt) rfl rfl hdg kk
theorem tb_Tiald (hx : p.tables.exec = Jvm.exec) (hb : c.code = cc) {t0 n : Nat} {f : Nat → Int32} (hT : va_T .int t0 n (fun j => .int (f j)) A s s.heap) (hS : va_S A s.heap H locs) {x : Int32} (hin : vp_in x n) (hdg : decode cc pc = .ok (.iaload, 1)) (kk : W p l e R s m args below meth c H locs cells slots Q (F0 m (pc + 1) ls (.int (f x.toNatClampNeg) :: rest))) : W p l e R s m args below meth c H locs cells slots Q (F0 m pc ls (.int x :: .ref t0 :: rest)) := by
  obtain ⟨cell, h1, h2, h3, h4, -, h5, h6⟩ := hT
  have hlt : x.toNatClampNeg < n := Nat.not_le.mp fun q => hin (Or.inr q)
  have h0 : H[t0]? = some cell := (hS.2.1 t0 (Array.getElem?_eq_some_iff.mp h1).1 h6).trans h1
  exact W.iald (v := .int (f x.toNatClampNeg)) hx hb h0 h2 h3 (fun q => q.elim (fun a => hin (Or.inl a)) (fun a => absurd (Nat.le_trans h4 a) (Nat.not_le.mpr hlt))) (h5 _ hlt) rfl rfl hdg kk
theorem tb_Talen (hx : p.tables.exec = Jvm.exec) (hb : c.code = cc) {t0 n : Nat} {ty : FieldType} {f : Nat → Value} (hT : va_T ty t0 n f A s s.heap) (hS : va_S A s.heap H locs) (hdg : decode cc pc = .ok (.arraylength, 1)) (kk : W p l e R s m args below meth c H locs cells slots Q (F0 m (pc + 1) ls (.int (nI n) :: rest))) : W p l e R s m args below meth c H locs cells slots Q (F0 m pc ls (.ref t0 :: rest)) := by
  obtain ⟨cell, h1, h2, h3, h4, h7, h5, h6⟩ := hT
  have h0 : H[t0]? = some cell := (hS.2.1 t0 (Array.getElem?_eq_some_iff.mp h1).1 h6).trans h1
  exact W.alen (n := nI n) hx hb h0 h2 h7 rfl rfl hdg kk
theorem tb_Trecv {E : String} {t0 : Nat} (h : va_O E t0 A s s.heap) (hS : va_S A s.heap H locs) : ∃ cell : Cell, H[t0]? = some cell ∧ cell.vm.isStatics = false ∧ s.vm.findClass E = some cell.cls := by
  obtain ⟨cell, h1, h2, h3, h4⟩ := h
  exact ⟨cell, (hS.2.1 t0 (Array.getElem?_eq_some_iff.mp h1).1 h4).trans h1, h2, h3⟩
end RWc
/-- the constants' addresses: texts, their rows of bytes, the two rows of the acts -/
abbrev KC : Type := (Nat → Nat) × (Nat → Nat) × Nat × Nat
def QT (K : KC) (D : va_G) (cy : Nat → ClassId) (A : Nat → Prop) (cn : Nat → Nat) (ad : Nat → Nat → Nat) (r : Nat) (M' : Mem) := va_Qq (fun (x : Option Nat) (_ : Unit) => x = some (K.1 r) ∧ r < 12) (fun _ t => Wd D cy A cn ad M' t.heap) A
section CLc
variable {p : Program} {l : Launch} {e : Env} {R : Room} {s : State} {m : MethodId} {args : Array Value} {below : List Frame} {meth : Method} {c : Code} {H : Heap} {locs : List Loc} {cells slots : Nat} {Q : State → Prop}
variable {cc : ByteArray} {pc : Nat} {ls : Array Slot} {rest : List Value} {D : va_G} {cy : Nat → ClassId} {A : Nat → Prop} {cn : Nat → Nat} {ad : Nat → Nat → Nat} {M : Mem}
variable {Z : State → Heap → Prop}
theorem tb_cVT (hZk : ZOK A Z) (hx : p.tables.exec = Jvm.exec) (hb : c.code = cc) {nL : Nat} (hml : c.maxLocals = nL) {own : String} (hown : s.vm.findClass own = some m.cls) (hts : ∀ w ∈ lw_tg, w.before args s = true) (hK : va_K D vwCl (tysA cy) s) (hZ : Z s s.heap) (hW : Wd D cy A cn ad M H) (hS : va_S A s.heap H locs) {K : KC} {a0 : Nat} {y : MethodName} {bytes : ByteArray} {maxL index n fr lo : Nat} {ret : Option FieldType} {M' : Mem} {r : Nat} (As : List Value) (hM : Met l y (wt y bytes maxL ret) (rm fr lo) (CPre D cy A Z cn ad M (.ref a0 :: As)) (QT K D cy A cn ad r M') 0 0 A) (pm : PMi y bytes maxL ret n) (hl : Cond.methodLink own index y ∈ lw_tg) (hrc : ∃ cell : Cell, H[a0]? = some cell ∧ cell.vm.isStatics = false ∧ s.vm.findClass y.cls = some cell.cls) (hR : fr + 1 ≤ R.frames ∧ 8 + (maxL + 11) + lo ≤ R.locals) (hn : As.length = n) (hsz : ls.size = nL) (hcat : (rest.map fun v => v.category).sum ≤ 8) (hf : cells + 0 ≤ R.cells ∧ slots + 0 ≤ R.slots) {st : List Value} (hst : st = As.reverse ++ .ref a0 :: rest) (hdg : decode cc pc = .ok (.invokevirtual index, 3)) (kk : ∀ (H1 : Heap) (locs1 : List Loc), Wd D cy A cn ad M' H1 → va_S A s.heap H1 locs1 → (r < 12) → W p l e R s m args below meth c H1 locs1 cells slots Q (F0 m (pc + 3) ls (.ref (K.1 r) :: rest))) : W p l e R s m args below meth c H locs cells slots Q (F0 m pc ls st) := by
  subst hst
  refine va_callq (va_runV (As := As) (rest := rest) ⟨hx, hb, hml, hown, hts⟩ hM ⟨tb_callB hts pm.1 hl hR rfl rfl, hts _ pm.2.1, hts _ pm.2.2⟩ ⟨CPre.blind hZk, hrc, CPre.mk hZk hZ hS hK hW⟩ rfl hn hsz rfl (lv_room hcat) hdg hf) hS (fun _ _ h => h) (fun _ h => h) (fun r1 u t1 H1 locs1 ht1 hvm hw hB hz1 hk1 hS1 => ?_)
  obtain ⟨rfl, hz⟩ := hw
  rw [ht1] at hB
  exact kk H1 locs1 hB hS1 hz
theorem tb_cST (hZk : ZOK A Z) (hx : p.tables.exec = Jvm.exec) (hb : c.code = cc) {nL : Nat} (hml : c.maxLocals = nL) {own : String} (hown : s.vm.findClass own = some m.cls) (hts : ∀ w ∈ lw_tg, w.before args s = true) (hK : va_K D vwCl (tysA cy) s) (hZ : Z s s.heap) (hW : Wd D cy A cn ad M H) (hS : va_S A s.heap H locs) {K : KC} {y : MethodName} {bytes : ByteArray} {maxL index n fr lo : Nat} {ret : Option FieldType} {M' : Mem} {r : Nat} (As : List Value) (hM : Met l y (wt y bytes maxL ret) (rm fr lo) (CPre D cy A Z cn ad M As) (QT K D cy A cn ad r M') 0 0 A) (pm : PMs y bytes maxL ret n) (hl : Cond.methodLink own index y ∈ lw_tg) (hR : fr + 1 ≤ R.frames ∧ 8 + (maxL + 11) + lo ≤ R.locals) (hn : As.length = n) (hsz : ls.size = nL) (hcat : (rest.map fun v => v.category).sum ≤ 8) (hf : cells + 0 ≤ R.cells ∧ slots + 0 ≤ R.slots) {st : List Value} (hst : st = As.reverse ++ rest) (hdg : decode cc pc = .ok (.invokestatic index, 3)) (kk : ∀ (H1 : Heap) (locs1 : List Loc), Wd D cy A cn ad M' H1 → va_S A s.heap H1 locs1 → (r < 12) → W p l e R s m args below meth c H1 locs1 cells slots Q (F0 m (pc + 3) ls (.ref (K.1 r) :: rest))) : W p l e R s m args below meth c H locs cells slots Q (F0 m pc ls st) := by
  subst hst
  refine va_callq (va_runS (As := As) (rest := rest) ⟨hx, hb, hml, hown, hts⟩ hM ⟨tb_callB hts pm.1 hl hR rfl rfl, hts _ pm.2⟩ ⟨CPre.blind hZk, CPre.mk hZk hZ hS hK hW⟩ rfl hn hsz rfl (lv_room hcat) hdg hf) hS (fun _ _ h => h) (fun _ h => h) (fun r1 u t1 H1 locs1 ht1 hvm hw hB hz1 hk1 hS1 => ?_)
  obtain ⟨rfl, hz⟩ := hw
  rw [ht1] at hB
  exact kk H1 locs1 hB hS1 hz
theorem tb_cNT (hZk : ZOK A Z) (hx : p.tables.exec = Jvm.exec) (hb : c.code = cc) {nL : Nat} (hml : c.maxLocals = nL) {own : String} (hown : s.vm.findClass own = some m.cls) (hts : ∀ w ∈ lw_tg, w.before args s = true) (hK : va_K D vwCl (tysA cy) s) (hZ : Z s s.heap) (hW : Wd D cy A cn ad M H) (hS : va_S A s.heap H locs) {K : KC} {y : MethodName} {bytes : ByteArray} {maxL index n fr lo : Nat} {ret : Option FieldType} {M' : Mem} {r : Nat} (As : List Value) (hM : Met l y (wt y bytes maxL ret) (rm fr lo) (CPre D cy A Z cn ad M As) (QT K D cy A cn ad r M') 0 0 A) (pm : PMs y bytes maxL ret n) {host : String} (hl : va_Nw (.methodLinkNest own index y host) s) (hR : fr + 1 ≤ R.frames ∧ 8 + (maxL + 11) + lo ≤ R.locals) (hn : As.length = n) (hsz : ls.size = nL) (hcat : (rest.map fun v => v.category).sum ≤ 8) (hf : cells + 0 ≤ R.cells ∧ slots + 0 ≤ R.slots) {st : List Value} (hst : st = As.reverse ++ rest) (hdg : decode cc pc = .ok (.invokestatic index, 3)) (kk : ∀ (H1 : Heap) (locs1 : List Loc), Wd D cy A cn ad M' H1 → va_S A s.heap H1 locs1 → (r < 12) → W p l e R s m args below meth c H1 locs1 cells slots Q (F0 m (pc + 3) ls (.ref (K.1 r) :: rest))) : W p l e R s m args below meth c H locs cells slots Q (F0 m pc ls st) := by
  subst hst
  refine va_callq (va_runSN (As := As) (rest := rest) ⟨hx, hb, hml, hown, hts⟩ hM ⟨tb_callN hts pm.1 hl hR rfl rfl, hts _ pm.2, trivial⟩ ⟨CPre.blind hZk, CPre.mk hZk hZ hS hK hW⟩ rfl hn hsz rfl (lv_room hcat) hdg hf) hS (fun _ _ h => h) (fun _ h => h) (fun r1 u t1 H1 locs1 ht1 hvm hw hB hz1 hk1 hS1 => ?_)
  obtain ⟨rfl, hz⟩ := hw
  rw [ht1] at hB
  exact kk H1 locs1 hB hS1 hz
end CLc
section RTc
variable {p : Program} {l : Launch} {e : Env} {R : Room} {s : State} {m : MethodId} {args : Array Value} {below : List Frame} {meth : Method} {c : Code} {H : Heap} {locs : List Loc} {cells slots : Nat} {Q : State → Prop}
variable {cc : ByteArray} {pc : Nat} {ls : Array Slot} {rest : List Value} {D : va_G} {cy : Nat → ClassId} {A : Nat → Prop} {cn : Nat → Nat} {ad : Nat → Nat → Nat} {M : Mem}
theorem tb_bretE {M1 M' : Mem} {v r : Int32} (h : some (v, M1) = some (r, M')) (hx : p.tables.exec = Jvm.exec) (hb : c.code = cc) (hr : meth.sig.returnType = some .byte) (hS : va_S A s.heap H locs) (hW : Wd D cy A cn ad M1 H) (hlocks : meth.locks = false) (hn : narrow .byte (.int v) = .int v) (hdg : decode cc pc = .ok (.ireturn, 1)) : W p l e R s m args below meth c H locs 0 0 (MQ below (QI D cy A cn ad r M') args s 0 0 A) (F0 m pc ls [.int v]) := by
  cases h
  exact W.zret hx hb hr hn (fun t ht hW' => ⟨⟨v, (), rfl, rfl, by show Wd D cy A cn ad _ t.heap; rw [ht]; exact hW⟩, hS.F ht⟩) hS.2.2 hdg hlocks
theorem tb_tretE {M1 M' : Mem} {v r : Nat} (h : some (v, M1) = some (r, M')) {K : KC} (hg : v < 12) (hx : p.tables.exec = Jvm.exec) (hb : c.code = cc) {rt : FieldType} (hr : meth.sig.returnType = some rt) (hrt : (∃ n, rt = .object n) ∨ ∃ t, rt = .array t) (hS : va_S A s.heap H locs) (hW : Wd D cy A cn ad M1 H) (hlocks : meth.locks = false) (hdg : decode cc pc = .ok (.areturn, 1)) : W p l e R s m args below meth c H locs 0 0 (MQ below (QT K D cy A cn ad r M') args s 0 0 A) (F0 m pc ls [.ref (K.1 v)]) := by
  cases h
  exact W.aret hx hb hr hrt (Or.inr ⟨_, rfl⟩) (fun t ht hW' => ⟨⟨some (K.1 v), (), rfl, ⟨rfl, hg⟩, by show Wd D cy A cn ad _ t.heap; rw [ht]; exact hW⟩, hS.F ht⟩) hS.2.2 hdg hlocks
theorem tb_bretO {v r : Int32} (h : some v = some r) (hx : p.tables.exec = Jvm.exec) (hb : c.code = cc) (hr : meth.sig.returnType = some .byte) (hS : va_S A s.heap H locs) (hW : Wd D cy A cn ad M H) (hlocks : meth.locks = false) (hn : narrow .byte (.int v) = .int v) (hdg : decode cc pc = .ok (.ireturn, 1)) : W p l e R s m args below meth c H locs 0 0 (MQ below (QI D cy A cn ad r M) args s 0 0 A) (F0 m pc ls [.int v]) := by
  cases h
  exact W.zret hx hb hr hn (fun t ht hW' => ⟨⟨v, (), rfl, rfl, by show Wd D cy A cn ad _ t.heap; rw [ht]; exact hW⟩, hS.F ht⟩) hS.2.2 hdg hlocks
theorem tb_tretO {v r : Nat} (h : some v = some r) {K : KC} (hg : v < 12) (hx : p.tables.exec = Jvm.exec) (hb : c.code = cc) {rt : FieldType} (hr : meth.sig.returnType = some rt) (hrt : (∃ n, rt = .object n) ∨ ∃ t, rt = .array t) (hS : va_S A s.heap H locs) (hW : Wd D cy A cn ad M H) (hlocks : meth.locks = false) (hdg : decode cc pc = .ok (.areturn, 1)) : W p l e R s m args below meth c H locs 0 0 (MQ below (QT K D cy A cn ad r M) args s 0 0 A) (F0 m pc ls [.ref (K.1 v)]) := by
  cases h
  exact W.aret hx hb hr hrt (Or.inr ⟨_, rfl⟩) (fun t ht hW' => ⟨⟨some (K.1 v), (), rfl, ⟨rfl, hg⟩, by show Wd D cy A cn ad _ t.heap; rw [ht]; exact hW⟩, hS.F ht⟩) hS.2.2 hdg hlocks
theorem tb_bretP {v r : Int32} (h : v = r) (hx : p.tables.exec = Jvm.exec) (hb : c.code = cc) (hr : meth.sig.returnType = some .byte) (hS : va_S A s.heap H locs) (hW : Wd D cy A cn ad M H) (hlocks : meth.locks = false) (hn : narrow .byte (.int v) = .int v) (hdg : decode cc pc = .ok (.ireturn, 1)) : W p l e R s m args below meth c H locs 0 0 (MQ below (QI D cy A cn ad r M) args s 0 0 A) (F0 m pc ls [.int v]) := by
  cases h
  exact W.zret hx hb hr hn (fun t ht hW' => ⟨⟨v, (), rfl, rfl, by show Wd D cy A cn ad _ t.heap; rw [ht]; exact hW⟩, hS.F ht⟩) hS.2.2 hdg hlocks
theorem tb_tretP {v r : Nat} (h : v = r) {K : KC} (hg : v < 12) (hx : p.tables.exec = Jvm.exec) (hb : c.code = cc) {rt : FieldType} (hr : meth.sig.returnType = some rt) (hrt : (∃ n, rt = .object n) ∨ ∃ t, rt = .array t) (hS : va_S A s.heap H locs) (hW : Wd D cy A cn ad M H) (hlocks : meth.locks = false) (hdg : decode cc pc = .ok (.areturn, 1)) : W p l e R s m args below meth c H locs 0 0 (MQ below (QT K D cy A cn ad r M) args s 0 0 A) (F0 m pc ls [.ref (K.1 v)]) := by
  cases h
  exact W.aret hx hb hr hrt (Or.inr ⟨_, rfl⟩) (fun t ht hW' => ⟨⟨some (K.1 v), (), rfl, ⟨rfl, hg⟩, by show Wd D cy A cn ad _ t.heap; rw [ht]; exact hW⟩, hS.F ht⟩) hS.2.2 hdg hlocks
end RTc
