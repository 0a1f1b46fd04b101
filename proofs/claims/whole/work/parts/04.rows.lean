section RW
variable {p : Program} {l : Launch} {e : Env} {R : Room} {s : State} {m : MethodId} {args : Array Value} {below : List Frame} {meth : Method} {c : Code} {H : Heap} {locs : List Loc} {cells slots : Nat} {Q : State → Prop}
variable {cc : ByteArray} {pc : Nat} {ls : Array Slot} {rest : List Value} {D : va_G} {cy : Nat → ClassId} {A : Nat → Prop} {cn : Nat → Nat} {ad : Nat → Nat → Nat} {M : Mem}

theorem tb_get (hx : p.tables.exec = Jvm.exec) (hb : c.code = cc) (hts : ∀ w ∈ lw_tg, w.before args s = true) {own : String} (hown : s.vm.findClass own = some m.cls) (hK : va_K D vwCl (tysA cy) s) (hW : Wd D cy A cn ad M H) (t k : Nat) {C : String} {T : u_T} {N index : Nat} (hin : ∀ w ∈ u_ws C T N, w ∈ lw_tg) (hc : vwCl[t]? = some (C, T, N)) (ht : t < 13) (hk : k < N) (hn : nF t = N) {i : Nat} (hi : i < cn t) (hl : Cond.fieldLink own index (T k).1 (T k).2.1 (T k).2.2.1 ∈ lw_tg) {v : Value} (hv : fvk ad M t i k (oK t k) = v) (hdg : decode cc pc = .ok (.getfield index, 3))
    (kk : W p l e R s m args below meth c H locs cells slots Q (F0 m (pc + 3) ls (v :: rest))) : W p l e R s m args below meth c H locs cells slots Q (F0 m pc ls (.ref (ad t i) :: rest)) := by
  obtain ⟨cell, q1, q2, q3, q4⟩ := hW.1 t i ht hi
  obtain ⟨hS, hfc, kC, hkC, hkind⟩ := hK.1 t _ hc
  obtain ⟨cf, kf, fi, f, hi', hsl⟩ := hS k hk
  refine W.getf hx hb hown (hts _ hl) hi' (u_facts hfc hkC (u_lays hts hin hk) hi').1 q1 (by rw [q3]; exact fun h => by cases h) (v := v) ?_ rfl rfl hdg kk
  rw [hsl, q4 k (by rw [hn]; exact hk)]
  exact congrArg some hv
theorem tb_put (hx : p.tables.exec = Jvm.exec) (hb : c.code = cc) (hts : ∀ w ∈ lw_tg, w.before args s = true) {own : String} (hown : s.vm.findClass own = some m.cls) (hK : va_K D vwCl (tysA cy) s) (hW : Wd D cy A cn ad M H) (hS0 : va_S A s.heap H locs) (t k : Nat) {C : String} {T : u_T} {N index : Nat} (hin : ∀ w ∈ u_ws C T N, w ∈ lw_tg) (hc : vwCl[t]? = some (C, T, N)) (ht : t < 13) (hk : k < N) (hn : nF t = N) (ty0 : Nat → FieldType) (hty : ∀ k, k < N → parseFieldDescriptor (T k).2.2.1 = some (ty0 k)) (hnm : ∀ a, a < N → ∀ b, b < N → a ≠ b → (T a).2.1 ≠ (T b).2.1) {i : Nat} (hi : i < cn t) (hl : Cond.fieldLink own index (T k).1 (T k).2.1 (T k).2.2.1 ∈ lw_tg) (hfin : (T k).2.2.2 = false) {ty : FieldType} {v : Value} (hd : parseFieldDescriptor (T k).2.2.1 = some ty) (hnar : narrow ty v = v) (hfit : fits ty v = true)
    (M' : Mem) (hv : fvk ad M' t i k (oK t k) = v)
    (hO : ∀ t' i' k', k' < nF t' → ¬ (t' = t ∧ i' = i ∧ k' = k) → fvk ad M t' i' k' (oK t' k') = fvk ad M' t' i' k' (oK t' k'))
    (hAr : ∀ t' i', 20 ≤ t' → arc cy ad M' t' i' = arc cy ad M t' i')
    (hR : ∀ q ∈ rTab, ∀ i j o, mgR M' q.1 i j = some o → o < cn q.2) (hdg : decode cc pc = .ok (.putfield index, 3))
    (kk : ∀ (H1 : Heap) (locs1 : List Loc), Wd D cy A cn ad M' H1 → va_S A s.heap H1 locs1 → W p l e R s m args below meth c H1 locs1 cells slots Q (F0 m (pc + 3) ls rest)) : W p l e R s m args below meth c H locs cells slots Q (F0 m pc ls (v :: .ref (ad t i) :: rest)) := by
  have hap := va_apart (own := own) hts hin ty0 hty hnm hK hc
  obtain ⟨cell, q1, q2, q3, q4⟩ := hW.1 t i ht hi
  obtain ⟨hS, hfc, kC, hkC, hkind⟩ := hK.1 t _ hc
  obtain ⟨cf, kf, fi, f, hi', hsl⟩ := hS k hk
  have hlay := hts _ (hin _ (u_in_lay hk))
  unfold u_lay at hlay
  rw [if_neg (by rw [hfin]; decide)] at hlay
  have hst := (u_facts hfc hkC (u_lays hts hin hk) hi').1
  have h6 := u_store hfc hkC hkind hlay hi' hd hnar hfit
  refine W.putK hx hb (f := f) ⟨hown, hts _ hl, ⟨_, _, _, hi'⟩, hst⟩ (by rw [q2]; exact h6) q1 q3 (by rw [hsl]; exact k2_hasslot (q4 k (by rw [hn]; exact hk))) rfl rfl hdg fun H' e1 e2 e3 => ?_
  rw [hsl] at e1 ⊢
  refine kk H' _ (hW.setO ht hi ?_ e3 (fun t' i' k' h1 h2 => hO t' i' k' h1 (fun z => h2 ⟨z.1, z.2.1⟩)) hAr hR) (hS0.put e2 e3 (hW.2.2.2.1 t i hi))
  have q4' : ∀ j, j < N → cell.slots[D.2 t j]? = some (fvk ad M t i j (oK t j)) := fun j hj => q4 j (by rw [hn]; exact hj)
  refine ⟨_, e1, q2, q3, fun j hj => ?_⟩
  have hj' : j < N := by rw [← hn]; exact hj
  by_cases hjk : j = k
  · subst hjk
    have := t_set q4' hap hk v j hk
    simp only [updV, if_true] at this
    exact this.trans (congrArg some hv.symm)
  · have := t_set q4' hap hk v j hj'
    simp only [updV, if_neg hjk] at this
    exact this.trans (congrArg some (hO t i j hj (fun z => hjk z.2.2)))
theorem tb_putI (hx : p.tables.exec = Jvm.exec) (hb : c.code = cc) (hts : ∀ w ∈ lw_tg, w.before args s = true) {own : String} (hown : s.vm.findClass own = some m.cls) (hK : va_K D vwCl (tysA cy) s) (hW : Wd D cy A cn ad M H) (hS0 : va_S A s.heap H locs) (t k : Nat) {C : String} {T : u_T} {N index : Nat} (hin : ∀ w ∈ u_ws C T N, w ∈ lw_tg) (hc : vwCl[t]? = some (C, T, N)) (ht : t < 13) (hk : k < N) (hn : nF t = N) (ty0 : Nat → FieldType) (hty : ∀ k, k < N → parseFieldDescriptor (T k).2.2.1 = some (ty0 k)) (hnm : ∀ a, a < N → ∀ b, b < N → a ≠ b → (T a).2.1 ≠ (T b).2.1) {i : Nat} (hi : i < cn t) (hl : Cond.fieldLink own index (T k).1 (T k).2.1 (T k).2.2.1 ∈ lw_tg) (hfin : (T k).2.2.2 = false) (hkd : (oK t k).1 = 0) {ty : FieldType} {v : Int32} (hd : parseFieldDescriptor (T k).2.2.1 = some ty) (hnar : narrow ty (.int v) = .int v) (hfit : fits ty (.int v) = true) {f : Nat} (hf : 100 * t + k = f) (hdg : decode cc pc = .ok (.putfield index, 3))
    (kk : ∀ (H1 : Heap) (locs1 : List Loc), Wd D cy A cn ad (msI M f i 0 v) H1 → va_S A s.heap H1 locs1 → W p l e R s m args below meth c H1 locs1 cells slots Q (F0 m (pc + 3) ls rest)) : W p l e R s m args below meth c H locs cells slots Q (F0 m pc ls (.int v :: .ref (ad t i) :: rest)) := by
  subst hf
  have hk58 : k < 58 := Nat.lt_of_lt_of_le hk (by rw [← hn]; exact nF_le t)
  refine tb_put hx hb hts hown hK hW hS0 t k hin hc ht hk hn ty0 hty hnm hi hl hfin hd hnar hfit (msI M (100 * t + k) i 0 v) ?_ ?_ ?_ ?_ hdg kk
  · unfold fvk
    rw [hkd]
    show Value.int _ = _
    rw [mgI_I, if_pos ⟨rfl, rfl, rfl⟩]
  · intro t' i' k' hk' hne
    refine fvk_I _ _ _ _ _ _ _ _ _ _ (fun z => hne ?_)
    have := nF_le t'
    exact ⟨by omega, z.2.1, by omega⟩
  · intro t' i' ht'
    refine arc_I _ _ _ _ _ _ _ _ _ (fun j' z => ?_)
    omega
  · intro q hq i j o h
    exact hW.2.2.2.2 q hq i j o h
theorem tb_putL (hx : p.tables.exec = Jvm.exec) (hb : c.code = cc) (hts : ∀ w ∈ lw_tg, w.before args s = true) {own : String} (hown : s.vm.findClass own = some m.cls) (hK : va_K D vwCl (tysA cy) s) (hW : Wd D cy A cn ad M H) (hS0 : va_S A s.heap H locs) (t k : Nat) {C : String} {T : u_T} {N index : Nat} (hin : ∀ w ∈ u_ws C T N, w ∈ lw_tg) (hc : vwCl[t]? = some (C, T, N)) (ht : t < 13) (hk : k < N) (hn : nF t = N) (ty0 : Nat → FieldType) (hty : ∀ k, k < N → parseFieldDescriptor (T k).2.2.1 = some (ty0 k)) (hnm : ∀ a, a < N → ∀ b, b < N → a ≠ b → (T a).2.1 ≠ (T b).2.1) {i : Nat} (hi : i < cn t) (hl : Cond.fieldLink own index (T k).1 (T k).2.1 (T k).2.2.1 ∈ lw_tg) (hfin : (T k).2.2.2 = false) (hkd : (oK t k).1 = 1) {ty : FieldType} {v : Int64} (hd : parseFieldDescriptor (T k).2.2.1 = some ty) (hnar : narrow ty (.long v) = .long v) (hfit : fits ty (.long v) = true) {f : Nat} (hf : 100 * t + k = f) (hdg : decode cc pc = .ok (.putfield index, 3))
    (kk : ∀ (H1 : Heap) (locs1 : List Loc), Wd D cy A cn ad (msL M f i 0 v) H1 → va_S A s.heap H1 locs1 → W p l e R s m args below meth c H1 locs1 cells slots Q (F0 m (pc + 3) ls rest)) : W p l e R s m args below meth c H locs cells slots Q (F0 m pc ls (.long v :: .ref (ad t i) :: rest)) := by
  subst hf
  have hk58 : k < 58 := Nat.lt_of_lt_of_le hk (by rw [← hn]; exact nF_le t)
  refine tb_put hx hb hts hown hK hW hS0 t k hin hc ht hk hn ty0 hty hnm hi hl hfin hd hnar hfit (msL M (100 * t + k) i 0 v) ?_ ?_ ?_ ?_ hdg kk
  · unfold fvk
    rw [hkd]
    show Value.long _ = _
    rw [mgL_L, if_pos ⟨rfl, rfl, rfl⟩]
  · intro t' i' k' hk' hne
    refine fvk_L _ _ _ _ _ _ _ _ _ _ (fun z => hne ?_)
    have := nF_le t'
    exact ⟨by omega, z.2.1, by omega⟩
  · intro t' i' ht'
    refine arc_L _ _ _ _ _ _ _ _ _ (fun j' z => ?_)
    omega
  · intro q hq i j o h
    exact hW.2.2.2.2 q hq i j o h
theorem tb_iald (hx : p.tables.exec = Jvm.exec) (hb : c.code = cc) (hK : va_K D vwCl (tysA cy) s) (hW : Wd D cy A cn ad M H) (t : Nat) {n i : Nat} (ht : 20 ≤ t) (hE : aE t = 0) (hN : aN t = n) (hi : i < cn t) {x : Int32} (hin : vp_in x n) {f : Nat} (hf : 100 * t = f) (hdg : decode cc pc = .ok (.iaload, 1))
    (kk : W p l e R s m args below meth c H locs cells slots Q (F0 m (pc + 1) ls (.int (mgI M f i x.toNatClampNeg) :: rest))) : W p l e R s m args below meth c H locs cells slots Q (F0 m pc ls (.int x :: .ref (ad t i) :: rest)) := by
  subst hf
  have h0 := hW.2.1 t i ht hi
  have hP : va_P D vwCl [(ad t i, .inl (cy 0, n, .inl (fun j => mgI M (100 * t) i j)))] H := fun k q hq => by
    have hz : k < 1 := (List.getElem?_eq_some_iff.mp hq).1
    rw [show k = 0 by omega] at hq
    cases hq
    show H[ad t i]? = some (vp_cell _ _)
    rw [h0]
    unfold arc
    rw [hE, hN]
    rfl
  exact va_iald hx hb hK hP 0 0 rfl rfl hin hdg kk
theorem tb_zald (hx : p.tables.exec = Jvm.exec) (hb : c.code = cc) (hK : va_K D vwCl (tysA cy) s) (hW : Wd D cy A cn ad M H) (t : Nat) {n i : Nat} (ht : 20 ≤ t) (hE : aE t = 2) (hN : aN t = n) (hi : i < cn t) {x : Int32} (hin : vp_in x n) {f : Nat} (hf : 100 * t = f) (hdg : decode cc pc = .ok (.baload, 1))
    (kk : W p l e R s m args below meth c H locs cells slots Q (F0 m (pc + 1) ls (.int (mgI M f i x.toNatClampNeg) :: rest))) : W p l e R s m args below meth c H locs cells slots Q (F0 m pc ls (.int x :: .ref (ad t i) :: rest)) := by
  subst hf
  have h0 := hW.2.1 t i ht hi
  have hP : va_P D vwCl [(ad t i, .inl (cy 2, n, .inl (fun j => mgI M (100 * t) i j)))] H := fun k q hq => by
    have hz : k < 1 := (List.getElem?_eq_some_iff.mp hq).1
    rw [show k = 0 by omega] at hq
    cases hq
    show H[ad t i]? = some (vp_cell _ _)
    rw [h0]
    unfold arc
    rw [hE, hN]
    rfl
  exact va_zald hx hb hK hP 0 2 rfl rfl hin hdg kk
theorem tb_bald (hx : p.tables.exec = Jvm.exec) (hb : c.code = cc) (hK : va_K D vwCl (tysA cy) s) (hW : Wd D cy A cn ad M H) (t : Nat) {n i : Nat} (ht : 20 ≤ t) (hE : aE t = 3) (hN : aN t = n) (hi : i < cn t) {x : Int32} (hin : vp_in x n) {f : Nat} (hf : 100 * t = f) (hdg : decode cc pc = .ok (.baload, 1))
    (kk : W p l e R s m args below meth c H locs cells slots Q (F0 m (pc + 1) ls (.int (mgI M f i x.toNatClampNeg) :: rest))) : W p l e R s m args below meth c H locs cells slots Q (F0 m pc ls (.int x :: .ref (ad t i) :: rest)) := by
  subst hf
  have h0 := hW.2.1 t i ht hi
  have hP : va_P D vwCl [(ad t i, .inl (cy 3, n, .inl (fun j => mgI M (100 * t) i j)))] H := fun k q hq => by
    have hz : k < 1 := (List.getElem?_eq_some_iff.mp hq).1
    rw [show k = 0 by omega] at hq
    cases hq
    show H[ad t i]? = some (vp_cell _ _)
    rw [h0]
    unfold arc
    rw [hE, hN]
    rfl
  exact va_bald hx hb hK hP 0 3 rfl rfl hin hdg kk
theorem tb_sald (hx : p.tables.exec = Jvm.exec) (hb : c.code = cc) (hK : va_K D vwCl (tysA cy) s) (hW : Wd D cy A cn ad M H) (t : Nat) {n i : Nat} (ht : 20 ≤ t) (hE : aE t = 4) (hN : aN t = n) (hi : i < cn t) {x : Int32} (hin : vp_in x n) {f : Nat} (hf : 100 * t = f) (hdg : decode cc pc = .ok (.saload, 1))
    (kk : W p l e R s m args below meth c H locs cells slots Q (F0 m (pc + 1) ls (.int (mgI M f i x.toNatClampNeg) :: rest))) : W p l e R s m args below meth c H locs cells slots Q (F0 m pc ls (.int x :: .ref (ad t i) :: rest)) := by
  subst hf
  have h0 := hW.2.1 t i ht hi
  have hP : va_P D vwCl [(ad t i, .inl (cy 4, n, .inl (fun j => mgI M (100 * t) i j)))] H := fun k q hq => by
    have hz : k < 1 := (List.getElem?_eq_some_iff.mp hq).1
    rw [show k = 0 by omega] at hq
    cases hq
    show H[ad t i]? = some (vp_cell _ _)
    rw [h0]
    unfold arc
    rw [hE, hN]
    rfl
  exact va_sald hx hb hK hP 0 4 rfl rfl hin hdg kk
theorem tb_lald (hx : p.tables.exec = Jvm.exec) (hb : c.code = cc) (hK : va_K D vwCl (tysA cy) s) (hW : Wd D cy A cn ad M H) (t : Nat) {n i : Nat} (ht : 20 ≤ t) (hE : aE t = 1) (hN : aN t = n) (hi : i < cn t) {x : Int32} (hin : vp_in x n) {f : Nat} (hf : 100 * t = f) (hdg : decode cc pc = .ok (.laload, 1))
    (kk : W p l e R s m args below meth c H locs cells slots Q (F0 m (pc + 1) ls (.long (mgL M f i x.toNatClampNeg) :: rest))) : W p l e R s m args below meth c H locs cells slots Q (F0 m pc ls (.int x :: .ref (ad t i) :: rest)) := by
  subst hf
  have h0 := hW.2.1 t i ht hi
  have hP : va_P D vwCl [(ad t i, .inl (cy 1, n, .inr (.inl (fun j => mgL M (100 * t) i j))))] H := fun k q hq => by
    have hz : k < 1 := (List.getElem?_eq_some_iff.mp hq).1
    rw [show k = 0 by omega] at hq
    cases hq
    show H[ad t i]? = some (vp_cell _ _)
    rw [h0]
    unfold arc
    rw [hE, hN]
    rfl
  exact va_lald hx hb hK hP 0 1 rfl rfl hin hdg kk
theorem tb_iast (hx : p.tables.exec = Jvm.exec) (hb : c.code = cc) (hK : va_K D vwCl (tysA cy) s) (hW : Wd D cy A cn ad M H) (hS0 : va_S A s.heap H locs) (t : Nat) {n i : Nat} (ht : 20 ≤ t) (hE : aE t = 0) (hN : aN t = n) (hi : i < cn t) {j : Int32} {x : Int32} (hin : vp_in j n) {f : Nat} (hf : 100 * t = f) (hdg : decode cc pc = .ok (.iastore, 1))
    (kk : ∀ (H1 : Heap) (locs1 : List Loc), Wd D cy A cn ad (msI M f i j.toNatClampNeg (x)) H1 → va_S A s.heap H1 locs1 → W p l e R s m args below meth c H1 locs1 cells slots Q (F0 m (pc + 1) ls rest)) : W p l e R s m args below meth c H locs cells slots Q (F0 m pc ls (.int x :: .int j :: .ref (ad t i) :: rest)) := by
  subst hf
  have h0 : H[ad t i]? = some (vp_cell (cy 0) (n, .inl (fun j => mgI M (100 * t) i j))) := by
    rw [hW.2.1 t i ht hi]
    unfold arc
    rw [hE, hN]
    rfl
  refine W.iast hx hb h0 ((hK.2 0 _ rfl).1 n (fun j => .int (mgI M (100 * t) i j))) (fun q => by cases q) (by show ¬ (j < 0 ∨ (arrV _ _ _).slots.size ≤ _); rw [arrV_size]; exact hin) rfl rfl hdg fun H1 e1 z oq => ?_
  refine kk H1 _ (hW.setA ht hi ?_ oq ?_ ?_ ?_) (hS0.put z oq (hW.2.2.2.1 t i hi))
  · rw [e1]
    unfold arc
    rw [hE, hN]
    show some _ = some (vp_cell _ _)
    rw [vp_cell_i, vp_cell_i, arrV_store]
    congr 2
    funext q
    simp only [updV, mgI_I]
    by_cases hq : q = j.toNatClampNeg
    · subst hq
      simp
    · simp [hq]
  · intro t' i' k' ht' hk'
    refine fvk_I _ _ _ _ _ _ _ _ _ _ (fun z => ?_)
    have := nF_le t'
    omega
  · intro t' i' hne
    refine arc_I _ _ _ _ _ _ _ _ _ (fun j' z => hne ⟨by omega, z.2.1⟩)
  · intro q hq i j o h
    exact hW.2.2.2.2 q hq i j o h
theorem tb_zast (hx : p.tables.exec = Jvm.exec) (hb : c.code = cc) (hK : va_K D vwCl (tysA cy) s) (hW : Wd D cy A cn ad M H) (hS0 : va_S A s.heap H locs) (t : Nat) {n i : Nat} (ht : 20 ≤ t) (hE : aE t = 2) (hN : aN t = n) (hi : i < cn t) {j : Int32} {x : Int32} (hin : vp_in j n) {f : Nat} (hf : 100 * t = f) (hdg : decode cc pc = .ok (.bastore, 1))
    (kk : ∀ (H1 : Heap) (locs1 : List Loc), Wd D cy A cn ad (msI M f i j.toNatClampNeg (vp_nar .boolean x)) H1 → va_S A s.heap H1 locs1 → W p l e R s m args below meth c H1 locs1 cells slots Q (F0 m (pc + 1) ls rest)) : W p l e R s m args below meth c H locs cells slots Q (F0 m pc ls (.int x :: .int j :: .ref (ad t i) :: rest)) := by
  subst hf
  have h0 : H[ad t i]? = some (vp_cell (cy 2) (n, .inl (fun j => mgI M (100 * t) i j))) := by
    rw [hW.2.1 t i ht hi]
    unfold arc
    rw [hE, hN]
    rfl
  refine W.zast hx hb h0 ((hK.2 2 _ rfl).1 n (fun j => .int (mgI M (100 * t) i j))) (fun q => by cases q) (by show ¬ (j < 0 ∨ (arrV _ _ _).slots.size ≤ _); rw [arrV_size]; exact hin) rfl rfl hdg fun H1 e1 z oq => ?_
  refine kk H1 _ (hW.setA ht hi ?_ oq ?_ ?_ ?_) (hS0.put z oq (hW.2.2.2.1 t i hi))
  · rw [e1]
    unfold arc
    rw [hE, hN]
    show some _ = some (vp_cell _ _)
    rw [vp_cell_i, vp_cell_i, arrV_store]
    congr 2
    funext q
    simp only [updV, mgI_I]
    by_cases hq : q = j.toNatClampNeg
    · subst hq
      simp [vp_nar, narrow]
    · simp [hq]
  · intro t' i' k' ht' hk'
    refine fvk_I _ _ _ _ _ _ _ _ _ _ (fun z => ?_)
    have := nF_le t'
    omega
  · intro t' i' hne
    refine arc_I _ _ _ _ _ _ _ _ _ (fun j' z => hne ⟨by omega, z.2.1⟩)
  · intro q hq i j o h
    exact hW.2.2.2.2 q hq i j o h
theorem tb_bast (hx : p.tables.exec = Jvm.exec) (hb : c.code = cc) (hK : va_K D vwCl (tysA cy) s) (hW : Wd D cy A cn ad M H) (hS0 : va_S A s.heap H locs) (t : Nat) {n i : Nat} (ht : 20 ≤ t) (hE : aE t = 3) (hN : aN t = n) (hi : i < cn t) {j : Int32} {x : Int32} (hin : vp_in j n) {f : Nat} (hf : 100 * t = f) (hdg : decode cc pc = .ok (.bastore, 1))
    (kk : ∀ (H1 : Heap) (locs1 : List Loc), Wd D cy A cn ad (msI M f i j.toNatClampNeg (vp_nar .byte x)) H1 → va_S A s.heap H1 locs1 → W p l e R s m args below meth c H1 locs1 cells slots Q (F0 m (pc + 1) ls rest)) : W p l e R s m args below meth c H locs cells slots Q (F0 m pc ls (.int x :: .int j :: .ref (ad t i) :: rest)) := by
  subst hf
  have h0 : H[ad t i]? = some (vp_cell (cy 3) (n, .inl (fun j => mgI M (100 * t) i j))) := by
    rw [hW.2.1 t i ht hi]
    unfold arc
    rw [hE, hN]
    rfl
  refine W.bast hx hb h0 ((hK.2 3 _ rfl).1 n (fun j => .int (mgI M (100 * t) i j))) (fun q => by cases q) (by show ¬ (j < 0 ∨ (arrV _ _ _).slots.size ≤ _); rw [arrV_size]; exact hin) rfl rfl hdg fun H1 e1 z oq => ?_
  refine kk H1 _ (hW.setA ht hi ?_ oq ?_ ?_ ?_) (hS0.put z oq (hW.2.2.2.1 t i hi))
  · rw [e1]
    unfold arc
    rw [hE, hN]
    show some _ = some (vp_cell _ _)
    rw [vp_cell_i, vp_cell_i, arrV_store]
    congr 2
    funext q
    simp only [updV, mgI_I]
    by_cases hq : q = j.toNatClampNeg
    · subst hq
      simp [vp_nar, narrow]
    · simp [hq]
  · intro t' i' k' ht' hk'
    refine fvk_I _ _ _ _ _ _ _ _ _ _ (fun z => ?_)
    have := nF_le t'
    omega
  · intro t' i' hne
    refine arc_I _ _ _ _ _ _ _ _ _ (fun j' z => hne ⟨by omega, z.2.1⟩)
  · intro q hq i j o h
    exact hW.2.2.2.2 q hq i j o h
theorem tb_sast (hx : p.tables.exec = Jvm.exec) (hb : c.code = cc) (hK : va_K D vwCl (tysA cy) s) (hW : Wd D cy A cn ad M H) (hS0 : va_S A s.heap H locs) (t : Nat) {n i : Nat} (ht : 20 ≤ t) (hE : aE t = 4) (hN : aN t = n) (hi : i < cn t) {j : Int32} {x : Int32} (hin : vp_in j n) {f : Nat} (hf : 100 * t = f) (hdg : decode cc pc = .ok (.sastore, 1))
    (kk : ∀ (H1 : Heap) (locs1 : List Loc), Wd D cy A cn ad (msI M f i j.toNatClampNeg (vp_nar .short x)) H1 → va_S A s.heap H1 locs1 → W p l e R s m args below meth c H1 locs1 cells slots Q (F0 m (pc + 1) ls rest)) : W p l e R s m args below meth c H locs cells slots Q (F0 m pc ls (.int x :: .int j :: .ref (ad t i) :: rest)) := by
  subst hf
  have h0 : H[ad t i]? = some (vp_cell (cy 4) (n, .inl (fun j => mgI M (100 * t) i j))) := by
    rw [hW.2.1 t i ht hi]
    unfold arc
    rw [hE, hN]
    rfl
  refine W.sast hx hb h0 ((hK.2 4 _ rfl).1 n (fun j => .int (mgI M (100 * t) i j))) (fun q => by cases q) (by show ¬ (j < 0 ∨ (arrV _ _ _).slots.size ≤ _); rw [arrV_size]; exact hin) rfl rfl hdg fun H1 e1 z oq => ?_
  refine kk H1 _ (hW.setA ht hi ?_ oq ?_ ?_ ?_) (hS0.put z oq (hW.2.2.2.1 t i hi))
  · rw [e1]
    unfold arc
    rw [hE, hN]
    show some _ = some (vp_cell _ _)
    rw [vp_cell_i, vp_cell_i, arrV_store]
    congr 2
    funext q
    simp only [updV, mgI_I]
    by_cases hq : q = j.toNatClampNeg
    · subst hq
      simp [vp_nar, narrow]
    · simp [hq]
  · intro t' i' k' ht' hk'
    refine fvk_I _ _ _ _ _ _ _ _ _ _ (fun z => ?_)
    have := nF_le t'
    omega
  · intro t' i' hne
    refine arc_I _ _ _ _ _ _ _ _ _ (fun j' z => hne ⟨by omega, z.2.1⟩)
  · intro q hq i j o h
    exact hW.2.2.2.2 q hq i j o h
theorem tb_last (hx : p.tables.exec = Jvm.exec) (hb : c.code = cc) (hK : va_K D vwCl (tysA cy) s) (hW : Wd D cy A cn ad M H) (hS0 : va_S A s.heap H locs) (t : Nat) {n i : Nat} (ht : 20 ≤ t) (hE : aE t = 1) (hN : aN t = n) (hi : i < cn t) {j : Int32} {x : Int64} (hin : vp_in j n) {f : Nat} (hf : 100 * t = f) (hdg : decode cc pc = .ok (.lastore, 1))
    (kk : ∀ (H1 : Heap) (locs1 : List Loc), Wd D cy A cn ad (msL M f i j.toNatClampNeg (x)) H1 → va_S A s.heap H1 locs1 → W p l e R s m args below meth c H1 locs1 cells slots Q (F0 m (pc + 1) ls rest)) : W p l e R s m args below meth c H locs cells slots Q (F0 m pc ls (.long x :: .int j :: .ref (ad t i) :: rest)) := by
  subst hf
  have h0 : H[ad t i]? = some (vp_cell (cy 1) (n, .inr (.inl (fun j => mgL M (100 * t) i j)))) := by
    rw [hW.2.1 t i ht hi]
    unfold arc
    rw [hE, hN]
    rfl
  refine W.last hx hb h0 ((hK.2 1 _ rfl).1 n (fun j => .long (mgL M (100 * t) i j))) (fun q => by cases q) (by show ¬ (j < 0 ∨ (arrV _ _ _).slots.size ≤ _); rw [arrV_size]; exact hin) rfl rfl hdg fun H1 e1 z oq => ?_
  refine kk H1 _ (hW.setA ht hi ?_ oq ?_ ?_ ?_) (hS0.put z oq (hW.2.2.2.1 t i hi))
  · rw [e1]
    unfold arc
    rw [hE, hN]
    show some _ = some (vp_cell _ _)
    rw [vp_cell_l, vp_cell_l, arrV_store]
    congr 2
    funext q
    simp only [updV, mgL_L]
    by_cases hq : q = j.toNatClampNeg
    · subst hq
      simp
    · simp [hq]
  · intro t' i' k' ht' hk'
    refine fvk_L _ _ _ _ _ _ _ _ _ _ (fun z => ?_)
    have := nF_le t'
    omega
  · intro t' i' hne
    refine arc_L _ _ _ _ _ _ _ _ _ (fun j' z => hne ⟨by omega, z.2.1⟩)
  · intro q hq i j o h
    exact hW.2.2.2.2 q hq i j o h
theorem tb_rald (hx : p.tables.exec = Jvm.exec) (hb : c.code = cc) (hK : va_K D vwCl (tysA cy) s) (hW : Wd D cy A cn ad M H) (t : Nat) {n i g : Nat} (ht : 20 ≤ t) (hE : aE t = 5 ∨ aE t = 6) (hN : aN t = n) (hG : aG t = g) (hi : i < cn t) {x : Int32} (hin : vp_in x n) {f : Nat} (hf : 100 * t = f) (kr : Nat) (hr : rTab[kr]? = some (f, g)) (hdg : decode cc pc = .ok (.aaload, 1))
    (kk : ∀ o : Option Nat, o = mgR M f i x.toNatClampNeg → (∀ z, o = some z → z < cn g) → W p l e R s m args below meth c H locs cells slots Q (F0 m (pc + 1) ls (rv (ad g) o :: rest))) : W p l e R s m args below meth c H locs cells slots Q (F0 m pc ls (.int x :: .ref (ad t i) :: rest)) := by
  subst hf
  subst hG
  have h0 := hW.2.1 t i ht hi
  have hk := kk _ rfl (fun z hz => hW.ref kr hr hz)
  rcases hE with hE | hE
  · have hP : va_P D vwCl [(ad t i, .inl (cy 5, n, .inr (.inr (.inr (.inr (fun j => (mgR M (100 * t) i j).map (ad (aG t))))))))] H := fun k q hq => by
      have hz : k < 1 := (List.getElem?_eq_some_iff.mp hq).1
      rw [show k = 0 by omega] at hq
      cases hq
      show H[ad t i]? = some (vp_cell _ _)
      rw [h0]
      unfold arc
      rw [hE, hN]
      rfl
    exact va_aldq hx hb hK hP 0 5 rfl rfl hin hdg hk
  · have hP : va_P D vwCl [(ad t i, .inl (cy 6, n, .inr (.inr (.inr (.inr (fun j => (mgR M (100 * t) i j).map (ad (aG t))))))))] H := fun k q hq => by
      have hz : k < 1 := (List.getElem?_eq_some_iff.mp hq).1
      rw [show k = 0 by omega] at hq
      cases hq
      show H[ad t i]? = some (vp_cell _ _)
      rw [h0]
      unfold arc
      rw [hE, hN]
      rfl
    exact va_aldq hx hb hK hP 0 6 rfl rfl hin hdg hk
theorem tb_alen (hx : p.tables.exec = Jvm.exec) (hb : c.code = cc) (hK : va_K D vwCl (tysA cy) s) (hW : Wd D cy A cn ad M H) (t : Nat) {n i : Nat} (ht : 20 ≤ t) (hE : aE t = 0 ∨ aE t = 1) (hN : aN t = n) (hi : i < cn t) {v : Int32} (hv : Int32.ofNat n = v) (hdg : decode cc pc = .ok (.arraylength, 1))
    (kk : W p l e R s m args below meth c H locs cells slots Q (F0 m (pc + 1) ls (.int v :: rest))) : W p l e R s m args below meth c H locs cells slots Q (F0 m pc ls (.ref (ad t i) :: rest)) := by
  have h0 := hW.2.1 t i ht hi
  rcases hE with hE | hE
  · have hP : va_P D vwCl [(ad t i, .inl (cy 0, n, .inl (fun j => mgI M (100 * t) i j)))] H := fun k q hq => by
      have hz : k < 1 := (List.getElem?_eq_some_iff.mp hq).1
      rw [show k = 0 by omega] at hq
      cases hq
      show H[ad t i]? = some (vp_cell _ _)
      rw [h0]
      unfold arc
      rw [hE, hN]
      rfl
    exact va_alen hx hb hK hP 0 0 rfl rfl hv hdg kk
  · have hP : va_P D vwCl [(ad t i, .inl (cy 1, n, .inr (.inl (fun j => mgL M (100 * t) i j))))] H := fun k q hq => by
      have hz : k < 1 := (List.getElem?_eq_some_iff.mp hq).1
      rw [show k = 0 by omega] at hq
      cases hq
      show H[ad t i]? = some (vp_cell _ _)
      rw [h0]
      unfold arc
      rw [hE, hN]
      rfl
    exact va_alen hx hb hK hP 0 1 rfl rfl hv hdg kk
theorem tb_aload_n (hx : p.tables.exec = Jvm.exec) (hb : c.code = cc) {k : Fin 4} {i : Nat} (hdg : decode cc pc = .ok (.aload_n k, 1)) (hi : (k : Nat) = i) {f : Nat → Nat} {o : Option Nat} (hl : ls[i]? = some (.val (rv f o))) (kk : W p l e R s m args below meth c H locs cells slots Q (F0 m (pc + 1) ls (rv f o :: rest))) : W p l e R s m args below meth c H locs cells slots Q (F0 m pc ls rest) := by
  cases o with
  | none => exact lv_aload_nN hx hb hdg hi hl kk
  | some z => exact lv_aload_n hx hb hdg hi hl kk
theorem tb_aload (hx : p.tables.exec = Jvm.exec) (hb : c.code = cc) {i : Nat} (hdg : decode cc pc = .ok (.aload i, 2)) {f : Nat → Nat} {o : Option Nat} (hl : ls[i]? = some (.val (rv f o))) (kk : W p l e R s m args below meth c H locs cells slots Q (F0 m (pc + 2) ls (rv f o :: rest))) : W p l e R s m args below meth c H locs cells slots Q (F0 m pc ls rest) := by
  cases o with
  | none => exact lv_aloadN hx hb hdg hl kk
  | some z => exact lv_aload hx hb hdg hl kk
theorem tb_astore_n (hx : p.tables.exec = Jvm.exec) (hb : c.code = cc) {k : Fin 4} {i nL : Nat} {lv lv' : List (Nat × Value)} (hdg : decode cc pc = .ok (.astore_n k, 1)) (hi : (k : Nat) = i) {f : Nat → Nat} {o : Option Nat} (h : lv_has ls nL lv) (hn : i < nL) (hl : (i, rv f o) :: lv.filter (fun q => !(q.1 == i) && !(q.1 + 1 == i && q.2.category == 2)) = lv') (kk : ∀ ls' : Array Slot, lv_has ls' nL lv' → W p l e R s m args below meth c H locs cells slots Q (F0 m (pc + 1) ls' rest)) : W p l e R s m args below meth c H locs cells slots Q (F0 m pc ls (rv f o :: rest)) := by
  cases o with
  | none => exact lv_astore_nN hx hb hdg hi h hn hl kk
  | some z => exact lv_astore_n hx hb hdg hi h hn hl kk
theorem tb_astore (hx : p.tables.exec = Jvm.exec) (hb : c.code = cc) {i nL : Nat} {lv lv' : List (Nat × Value)} (hdg : decode cc pc = .ok (.astore i, 2)) {f : Nat → Nat} {o : Option Nat} (h : lv_has ls nL lv) (hn : i < nL) (hl : (i, rv f o) :: lv.filter (fun q => !(q.1 == i) && !(q.1 + 1 == i && q.2.category == 2)) = lv') (kk : ∀ ls' : Array Slot, lv_has ls' nL lv' → W p l e R s m args below meth c H locs cells slots Q (F0 m (pc + 2) ls' rest)) : W p l e R s m args below meth c H locs cells slots Q (F0 m pc ls (rv f o :: rest)) := by
  cases o with
  | none => exact lv_astoreN hx hb hdg h hn hl kk
  | some z => exact lv_astore hx hb hdg h hn hl kk
theorem tb_ifnull (hx : p.tables.exec = Jvm.exec) (hb : c.code = cc) {off : Int} {tgt : Nat} {f : Nat → Nat} {o : Option Nat} (hdg : decode cc pc = .ok (.ifnull off, 3)) (ht : (pc : Int) + off = (tgt : Int)) (kt : o = none → W p l e R s m args below meth c H locs cells slots Q (F0 m tgt ls rest)) (kf : ∀ z, o = some z → W p l e R s m args below meth c H locs cells slots Q (F0 m (pc + 3) ls rest)) : W p l e R s m args below meth c H locs cells slots Q (F0 m pc ls (rv f o :: rest)) := by
  cases o with
  | none => exact lv_ifnullN hx hb hdg ht (kt rfl)
  | some z => exact lv_ifnull hx hb hdg (kf z rfl)
theorem tb_ifnonnull (hx : p.tables.exec = Jvm.exec) (hb : c.code = cc) {off : Int} {tgt : Nat} {f : Nat → Nat} {o : Option Nat} (hdg : decode cc pc = .ok (.ifnonnull off, 3)) (ht : (pc : Int) + off = (tgt : Int)) (kt : ∀ z, o = some z → W p l e R s m args below meth c H locs cells slots Q (F0 m tgt ls rest)) (kf : o = none → W p l e R s m args below meth c H locs cells slots Q (F0 m (pc + 3) ls rest)) : W p l e R s m args below meth c H locs cells slots Q (F0 m pc ls (rv f o :: rest)) := by
  cases o with
  | none => exact lv_ifnonnullN hx hb hdg (kf rfl)
  | some z => exact lv_ifnonnull hx hb hdg ht (kt z rfl)
theorem tb_topr {f : Nat → Nat} {o : Option Nat} (k : ∀ y : Option Nat, y = o → W p l e R s m args below meth c H locs cells slots Q (F0 m pc ls (rv f y :: rest))) : W p l e R s m args below meth c H locs cells slots Q (F0 m pc ls (rv f o :: rest)) := k o rfl
end RW
/-- what a method finds: its arguments, the world, the tables, the constants -/
def CPre (D : va_G) (cy : Nat → ClassId) (A : Nat → Prop) (Z : State → Heap → Prop) (cn : Nat → Nat) (ad : Nat → Nat → Nat) (M : Mem) (av : List Value) : Array Value → State → Prop := va_Pc av (fun U => Wd D cy A cn ad M U.heap ∧ va_K D vwCl (tysA cy) U ∧ Z U U.heap)
def ZOK (A : Nat → Prop) (Z : State → Heap → Prop) : Prop := (∀ (U : State) (H H1 : Heap), Z U H → H.size ≤ H1.size → (∀ q : Nat, q < H.size → ¬ A q → H1[q]? = H[q]?) → Z U H1) ∧ (∀ (u U : State) (H : Heap), U.vm = u.vm → Z u H → Z U H) ∧ (∀ (u U : State) (H : Heap), u.WarmedH U.vm → Z u H → Z U H)
def QI (D : va_G) (cy : Nat → ClassId) (A : Nat → Prop) (cn : Nat → Nat) (ad : Nat → Nat → Nat) (r : Int32) (M' : Mem) := va_Qi (fun (x : Int32) (_ : Unit) => x = r) (fun _ t => Wd D cy A cn ad M' t.heap) A
def QL (D : va_G) (cy : Nat → ClassId) (A : Nat → Prop) (cn : Nat → Nat) (ad : Nat → Nat → Nat) (r : Int64) (M' : Mem) := va_Ql (fun (x : Int64) (_ : Unit) => x = r) (fun _ t => Wd D cy A cn ad M' t.heap) A
def QV (D : va_G) (cy : Nat → ClassId) (A : Nat → Prop) (cn : Nat → Nat) (ad : Nat → Nat → Nat) (_ : Unit) (M' : Mem) := va_Qv (fun (_ : Unit) => True) (fun _ t => Wd D cy A cn ad M' t.heap) A
def QZ (D : va_G) (cy : Nat → ClassId) (A : Nat → Prop) (cn : Nat → Nat) (ad : Nat → Nat → Nat) (r : Int32) (M' : Mem) := va_Qi (fun (x : Int32) (_ : Unit) => x = r ∧ (r = 0 ∨ r = 1)) (fun _ t => Wd D cy A cn ad M' t.heap) A
def QR (g : Nat) (D : va_G) (cy : Nat → ClassId) (A : Nat → Prop) (cn : Nat → Nat) (ad : Nat → Nat → Nat) (r : Option Nat) (M' : Mem) := va_Qq (fun (x : Option Nat) (_ : Unit) => x = r.map (ad g) ∧ ∀ z, r = some z → z < cn g) (fun _ t => Wd D cy A cn ad M' t.heap) A
def wt (y : MethodName) (cc : ByteArray) (maxL : Nat) (ret : Option FieldType) : List Cond := .code y cc maxL ret :: lw_tg
theorem wt_good {y : MethodName} {cc : ByteArray} {maxL : Nat} {ret : Option FieldType} (h : Cond.code y cc maxL ret ∈ lw_tg) : GoodIn lw_tg (wt y cc maxL ret) := fun w hw => by
  rcases List.mem_cons.mp hw with rfl | hw
  · exact tb_goodIn _ h
  · exact tb_goodIn _ hw
abbrev rm (f o : Nat) : Room := { frames := f, cells := 0, slots := 0, locals := o }
theorem CPre.blind {D : va_G} {cy : Nat → ClassId} {A : Nat → Prop} {Z : State → Heap → Prop} {cn : Nat → Nat} {ad : Nat → Nat → Nat} {M : Mem} {av : List Value} (hZk : ZOK A Z) : FrameBlind (CPre D cy A Z cn ad M av) := fun a U g mk q => by
  obtain ⟨e, h1, h2, h3⟩ := q
  exact ⟨e, h1, va_K.moved (u := U) (U := U.calling g mk a) (Vm.Alike.refl U.vm) h2, hZk.2.1 U (U.calling g mk a) U.heap rfl h3⟩
theorem CPre.mk {D : va_G} {cy : Nat → ClassId} {A : Nat → Prop} {Z : State → Heap → Prop} {cn : Nat → Nat} {ad : Nat → Nat → Nat} {M : Mem} {av : List Value} {s : State} {H : Heap} {locs : List Loc} (hZk : ZOK A Z) (hZ : Z s s.heap) (hS : va_S A s.heap H locs) (hK : va_K D vwCl (tysA cy) s) (hW : Wd D cy A cn ad M H) : ∀ U : State, U.heap = H → s.WarmedH U.vm → CPre D cy A Z cn ad M av av.toArray U := fun U hU hV => by
  refine ⟨rfl, by rw [hU]; exact hW, va_K.moved hV.alike hK, ?_⟩
  rw [hU]
  exact hZk.2.2 s U H hV (hZk.1 s s.heap H hZ hS.1 hS.2.1)
theorem tb_callB {R : Room} {s : State} {args : Array Value} (hts : ∀ w ∈ lw_tg, w.before args s = true) {own : String} {index : Nat} {y : MethodName} {cc : ByteArray} {maxL : Nat} {ret : Option FieldType} {n mc ms : Nat} {r0 : Room} (pm : PMo y cc maxL ret n) (hl : Cond.methodLink own index y ∈ lw_tg) (hR : r0.frames + 1 ≤ R.frames ∧ 8 + (maxL + 11) + r0.locals ≤ R.locals) (hc : r0.cells = mc) (hs : r0.slots = ms) : CallB R s args own index y cc maxL ret (wt y cc maxL ret) r0 mc ms n := callB_of n hts (wt_good pm.1) rfl hc hs (hts _ pm.2.1) (hts _ hl) ⟨pm.2.2.1.1, pm.2.2.1.2, pm.2.2.2⟩ hR
theorem tb_callN {R : Room} {s : State} {args : Array Value} (hts : ∀ w ∈ lw_tg, w.before args s = true) {own host : String} {index : Nat} {y : MethodName} {cc : ByteArray} {maxL : Nat} {ret : Option FieldType} {n mc ms : Nat} {r0 : Room} (pm : PMo y cc maxL ret n) (hl : va_Nw (.methodLinkNest own index y host) s) (hR : r0.frames + 1 ≤ R.frames ∧ 8 + (maxL + 11) + r0.locals ≤ R.locals) (hc : r0.cells = mc) (hs : r0.slots = ms) : va_CN R s args own index y host cc maxL ret (wt y cc maxL ret) r0 mc ms n := va_cnB n hts (wt_good pm.1) rfl hc hs hl (hts _ pm.2.1) ⟨pm.2.2.1.1, pm.2.2.1.2, pm.2.2.2⟩ hR
theorem Wd.recv {D : va_G} {cy : Nat → ClassId} {A : Nat → Prop} {cn : Nat → Nat} {ad : Nat → Nat → Nat} {M : Mem} {H : Heap} {s : State} (hK : va_K D vwCl (tysA cy) s) (hW : Wd D cy A cn ad M H) {t i : Nat} (ht : t < 13) (hi : i < cn t) {C : String} {T : u_T} {N : Nat} (hc : vwCl[t]? = some (C, T, N)) : ∃ cell : Cell, H[ad t i]? = some cell ∧ cell.vm.isStatics = false ∧ s.vm.findClass C = some cell.cls := by
  obtain ⟨cell, q1, q2, q3, -⟩ := hW.1 t i ht hi
  exact ⟨cell, q1, by rw [q3]; rfl, by rw [q2]; exact (hK.1 t _ hc).2.1⟩

section CL
variable {p : Program} {l : Launch} {e : Env} {R : Room} {s : State} {m : MethodId} {args : Array Value} {below : List Frame} {meth : Method} {c : Code} {H : Heap} {locs : List Loc} {cells slots : Nat} {Q : State → Prop}
variable {cc : ByteArray} {pc : Nat} {ls : Array Slot} {rest : List Value} {D : va_G} {cy : Nat → ClassId} {A : Nat → Prop} {cn : Nat → Nat} {ad : Nat → Nat → Nat} {M : Mem}
variable {Z : State → Heap → Prop}

theorem tb_cVI (hZk : ZOK A Z) (hx : p.tables.exec = Jvm.exec) (hb : c.code = cc) {nL : Nat} (hml : c.maxLocals = nL) {own : String} (hown : s.vm.findClass own = some m.cls) (hts : ∀ w ∈ lw_tg, w.before args s = true) (hK : va_K D vwCl (tysA cy) s) (hZ : Z s s.heap) (hW : Wd D cy A cn ad M H) (hS : va_S A s.heap H locs) {a0 : Nat} {y : MethodName} {bytes : ByteArray} {maxL index n fr lo : Nat} {ret : Option FieldType} {M' : Mem} {r : Int32} (As : List Value) (hM : Met l y (wt y bytes maxL ret) (rm fr lo) (CPre D cy A Z cn ad M (.ref a0 :: As)) (QI D cy A cn ad r M') 0 0 A) (pm : PMi y bytes maxL ret n) (hl : Cond.methodLink own index y ∈ lw_tg) (hrc : ∃ cell : Cell, H[a0]? = some cell ∧ cell.vm.isStatics = false ∧ s.vm.findClass y.cls = some cell.cls) (hR : fr + 1 ≤ R.frames ∧ 8 + (maxL + 11) + lo ≤ R.locals) (hn : As.length = n) (hsz : ls.size = nL) (hcat : (rest.map fun v => v.category).sum ≤ 8) (hf : cells + 0 ≤ R.cells ∧ slots + 0 ≤ R.slots) {st : List Value} (hst : st = As.reverse ++ .ref a0 :: rest) (hdg : decode cc pc = .ok (.invokevirtual index, 3)) (kk : ∀ (H1 : Heap) (locs1 : List Loc), Wd D cy A cn ad M' H1 → va_S A s.heap H1 locs1 → W p l e R s m args below meth c H1 locs1 cells slots Q (F0 m (pc + 3) ls (.int r :: rest))) : W p l e R s m args below meth c H locs cells slots Q (F0 m pc ls st) := by
  subst hst
  refine va_calli (va_runV (As := As) (rest := rest) ⟨hx, hb, hml, hown, hts⟩ hM ⟨tb_callB hts pm.1 hl hR rfl rfl, hts _ pm.2.1, hts _ pm.2.2⟩ ⟨CPre.blind hZk, hrc, CPre.mk hZk hZ hS hK hW⟩ rfl hn hsz rfl (lv_room hcat) hdg hf) hS (fun _ _ h => h) (fun _ h => h) (fun r1 u t1 H1 locs1 ht1 hvm hw hB hz1 hk1 hS1 => ?_)
  subst hw
  rw [ht1] at hB
  exact kk H1 locs1 hB hS1
theorem tb_cVZ (hZk : ZOK A Z) (hx : p.tables.exec = Jvm.exec) (hb : c.code = cc) {nL : Nat} (hml : c.maxLocals = nL) {own : String} (hown : s.vm.findClass own = some m.cls) (hts : ∀ w ∈ lw_tg, w.before args s = true) (hK : va_K D vwCl (tysA cy) s) (hZ : Z s s.heap) (hW : Wd D cy A cn ad M H) (hS : va_S A s.heap H locs) {a0 : Nat} {y : MethodName} {bytes : ByteArray} {maxL index n fr lo : Nat} {ret : Option FieldType} {M' : Mem} {r : Int32} (As : List Value) (hM : Met l y (wt y bytes maxL ret) (rm fr lo) (CPre D cy A Z cn ad M (.ref a0 :: As)) (QZ D cy A cn ad r M') 0 0 A) (pm : PMi y bytes maxL ret n) (hl : Cond.methodLink own index y ∈ lw_tg) (hrc : ∃ cell : Cell, H[a0]? = some cell ∧ cell.vm.isStatics = false ∧ s.vm.findClass y.cls = some cell.cls) (hR : fr + 1 ≤ R.frames ∧ 8 + (maxL + 11) + lo ≤ R.locals) (hn : As.length = n) (hsz : ls.size = nL) (hcat : (rest.map fun v => v.category).sum ≤ 8) (hf : cells + 0 ≤ R.cells ∧ slots + 0 ≤ R.slots) {st : List Value} (hst : st = As.reverse ++ .ref a0 :: rest) (hdg : decode cc pc = .ok (.invokevirtual index, 3)) (kk : ∀ (H1 : Heap) (locs1 : List Loc), Wd D cy A cn ad M' H1 → va_S A s.heap H1 locs1 → (r = 0 ∨ r = 1) → W p l e R s m args below meth c H1 locs1 cells slots Q (F0 m (pc + 3) ls (.int r :: rest))) : W p l e R s m args below meth c H locs cells slots Q (F0 m pc ls st) := by
  subst hst
  refine va_calli (va_runV (As := As) (rest := rest) ⟨hx, hb, hml, hown, hts⟩ hM ⟨tb_callB hts pm.1 hl hR rfl rfl, hts _ pm.2.1, hts _ pm.2.2⟩ ⟨CPre.blind hZk, hrc, CPre.mk hZk hZ hS hK hW⟩ rfl hn hsz rfl (lv_room hcat) hdg hf) hS (fun _ _ h => h) (fun _ h => h) (fun r1 u t1 H1 locs1 ht1 hvm hw hB hz1 hk1 hS1 => ?_)
  obtain ⟨rfl, hz⟩ := hw
  rw [ht1] at hB
  exact kk H1 locs1 hB hS1 hz
theorem tb_cVL (hZk : ZOK A Z) (hx : p.tables.exec = Jvm.exec) (hb : c.code = cc) {nL : Nat} (hml : c.maxLocals = nL) {own : String} (hown : s.vm.findClass own = some m.cls) (hts : ∀ w ∈ lw_tg, w.before args s = true) (hK : va_K D vwCl (tysA cy) s) (hZ : Z s s.heap) (hW : Wd D cy A cn ad M H) (hS : va_S A s.heap H locs) {a0 : Nat} {y : MethodName} {bytes : ByteArray} {maxL index n fr lo : Nat} {ret : Option FieldType} {M' : Mem} {r : Int64} (As : List Value) (hM : Met l y (wt y bytes maxL ret) (rm fr lo) (CPre D cy A Z cn ad M (.ref a0 :: As)) (QL D cy A cn ad r M') 0 0 A) (pm : PMi y bytes maxL ret n) (hl : Cond.methodLink own index y ∈ lw_tg) (hrc : ∃ cell : Cell, H[a0]? = some cell ∧ cell.vm.isStatics = false ∧ s.vm.findClass y.cls = some cell.cls) (hR : fr + 1 ≤ R.frames ∧ 8 + (maxL + 11) + lo ≤ R.locals) (hn : As.length = n) (hsz : ls.size = nL) (hcat : (rest.map fun v => v.category).sum ≤ 8) (hf : cells + 0 ≤ R.cells ∧ slots + 0 ≤ R.slots) {st : List Value} (hst : st = As.reverse ++ .ref a0 :: rest) (hdg : decode cc pc = .ok (.invokevirtual index, 3)) (kk : ∀ (H1 : Heap) (locs1 : List Loc), Wd D cy A cn ad M' H1 → va_S A s.heap H1 locs1 → W p l e R s m args below meth c H1 locs1 cells slots Q (F0 m (pc + 3) ls (.long r :: rest))) : W p l e R s m args below meth c H locs cells slots Q (F0 m pc ls st) := by
  subst hst
  refine va_calll (va_runV (As := As) (rest := rest) ⟨hx, hb, hml, hown, hts⟩ hM ⟨tb_callB hts pm.1 hl hR rfl rfl, hts _ pm.2.1, hts _ pm.2.2⟩ ⟨CPre.blind hZk, hrc, CPre.mk hZk hZ hS hK hW⟩ rfl hn hsz rfl (lv_room hcat) hdg hf) hS (fun _ _ h => h) (fun _ h => h) (fun r1 u t1 H1 locs1 ht1 hvm hw hB hz1 hk1 hS1 => ?_)
  subst hw
  rw [ht1] at hB
  exact kk H1 locs1 hB hS1
theorem tb_cVV (hZk : ZOK A Z) (hx : p.tables.exec = Jvm.exec) (hb : c.code = cc) {nL : Nat} (hml : c.maxLocals = nL) {own : String} (hown : s.vm.findClass own = some m.cls) (hts : ∀ w ∈ lw_tg, w.before args s = true) (hK : va_K D vwCl (tysA cy) s) (hZ : Z s s.heap) (hW : Wd D cy A cn ad M H) (hS : va_S A s.heap H locs) {a0 : Nat} {y : MethodName} {bytes : ByteArray} {maxL index n fr lo : Nat} {ret : Option FieldType} {M' : Mem} {r : Unit} (As : List Value) (hM : Met l y (wt y bytes maxL ret) (rm fr lo) (CPre D cy A Z cn ad M (.ref a0 :: As)) (QV D cy A cn ad r M') 0 0 A) (pm : PMi y bytes maxL ret n) (hl : Cond.methodLink own index y ∈ lw_tg) (hrc : ∃ cell : Cell, H[a0]? = some cell ∧ cell.vm.isStatics = false ∧ s.vm.findClass y.cls = some cell.cls) (hR : fr + 1 ≤ R.frames ∧ 8 + (maxL + 11) + lo ≤ R.locals) (hn : As.length = n) (hsz : ls.size = nL) (hcat : (rest.map fun v => v.category).sum ≤ 8) (hf : cells + 0 ≤ R.cells ∧ slots + 0 ≤ R.slots) {st : List Value} (hst : st = As.reverse ++ .ref a0 :: rest) (hdg : decode cc pc = .ok (.invokevirtual index, 3)) (kk : ∀ (H1 : Heap) (locs1 : List Loc), Wd D cy A cn ad M' H1 → va_S A s.heap H1 locs1 → W p l e R s m args below meth c H1 locs1 cells slots Q (F0 m (pc + 3) ls rest)) : W p l e R s m args below meth c H locs cells slots Q (F0 m pc ls st) := by
  subst hst
  refine va_callv (va_runV (As := As) (rest := rest) ⟨hx, hb, hml, hown, hts⟩ hM ⟨tb_callB hts pm.1 hl hR rfl rfl, hts _ pm.2.1, hts _ pm.2.2⟩ ⟨CPre.blind hZk, hrc, CPre.mk hZk hZ hS hK hW⟩ rfl hn hsz rfl (lv_room hcat) hdg hf) hS (fun _ _ h => h) (fun _ h => h) (fun u t1 H1 locs1 ht1 hvm hw hB hz1 hk1 hS1 => ?_)
  rw [ht1] at hB
  exact kk H1 locs1 hB hS1
theorem tb_cVR (hZk : ZOK A Z) (hx : p.tables.exec = Jvm.exec) (hb : c.code = cc) {nL : Nat} (hml : c.maxLocals = nL) {own : String} (hown : s.vm.findClass own = some m.cls) (hts : ∀ w ∈ lw_tg, w.before args s = true) (hK : va_K D vwCl (tysA cy) s) (hZ : Z s s.heap) (hW : Wd D cy A cn ad M H) (hS : va_S A s.heap H locs) {g : Nat} {a0 : Nat} {y : MethodName} {bytes : ByteArray} {maxL index n fr lo : Nat} {ret : Option FieldType} {M' : Mem} {r : Option Nat} (As : List Value) (hM : Met l y (wt y bytes maxL ret) (rm fr lo) (CPre D cy A Z cn ad M (.ref a0 :: As)) (QR g D cy A cn ad r M') 0 0 A) (pm : PMi y bytes maxL ret n) (hl : Cond.methodLink own index y ∈ lw_tg) (hrc : ∃ cell : Cell, H[a0]? = some cell ∧ cell.vm.isStatics = false ∧ s.vm.findClass y.cls = some cell.cls) (hR : fr + 1 ≤ R.frames ∧ 8 + (maxL + 11) + lo ≤ R.locals) (hn : As.length = n) (hsz : ls.size = nL) (hcat : (rest.map fun v => v.category).sum ≤ 8) (hf : cells + 0 ≤ R.cells ∧ slots + 0 ≤ R.slots) {st : List Value} (hst : st = As.reverse ++ .ref a0 :: rest) (hdg : decode cc pc = .ok (.invokevirtual index, 3)) (kk : ∀ (H1 : Heap) (locs1 : List Loc), Wd D cy A cn ad M' H1 → va_S A s.heap H1 locs1 → (∀ z, r = some z → z < cn g) → W p l e R s m args below meth c H1 locs1 cells slots Q (F0 m (pc + 3) ls (rv (ad g) r :: rest))) : W p l e R s m args below meth c H locs cells slots Q (F0 m pc ls st) := by
  subst hst
  refine va_callq (va_runV (As := As) (rest := rest) ⟨hx, hb, hml, hown, hts⟩ hM ⟨tb_callB hts pm.1 hl hR rfl rfl, hts _ pm.2.1, hts _ pm.2.2⟩ ⟨CPre.blind hZk, hrc, CPre.mk hZk hZ hS hK hW⟩ rfl hn hsz rfl (lv_room hcat) hdg hf) hS (fun _ _ h => h) (fun _ h => h) (fun r1 u t1 H1 locs1 ht1 hvm hw hB hz1 hk1 hS1 => ?_)
  obtain ⟨rfl, hz⟩ := hw
  rw [ht1] at hB
  exact kk H1 locs1 hB hS1 hz
theorem tb_cSI (hZk : ZOK A Z) (hx : p.tables.exec = Jvm.exec) (hb : c.code = cc) {nL : Nat} (hml : c.maxLocals = nL) {own : String} (hown : s.vm.findClass own = some m.cls) (hts : ∀ w ∈ lw_tg, w.before args s = true) (hK : va_K D vwCl (tysA cy) s) (hZ : Z s s.heap) (hW : Wd D cy A cn ad M H) (hS : va_S A s.heap H locs) {y : MethodName} {bytes : ByteArray} {maxL index n fr lo : Nat} {ret : Option FieldType} {M' : Mem} {r : Int32} (As : List Value) (hM : Met l y (wt y bytes maxL ret) (rm fr lo) (CPre D cy A Z cn ad M As) (QI D cy A cn ad r M') 0 0 A) (pm : PMs y bytes maxL ret n) (hl : Cond.methodLink own index y ∈ lw_tg) (hR : fr + 1 ≤ R.frames ∧ 8 + (maxL + 11) + lo ≤ R.locals) (hn : As.length = n) (hsz : ls.size = nL) (hcat : (rest.map fun v => v.category).sum ≤ 8) (hf : cells + 0 ≤ R.cells ∧ slots + 0 ≤ R.slots) {st : List Value} (hst : st = As.reverse ++ rest) (hdg : decode cc pc = .ok (.invokestatic index, 3)) (kk : ∀ (H1 : Heap) (locs1 : List Loc), Wd D cy A cn ad M' H1 → va_S A s.heap H1 locs1 → W p l e R s m args below meth c H1 locs1 cells slots Q (F0 m (pc + 3) ls (.int r :: rest))) : W p l e R s m args below meth c H locs cells slots Q (F0 m pc ls st) := by
  subst hst
  refine va_calli (va_runS (As := As) (rest := rest) ⟨hx, hb, hml, hown, hts⟩ hM ⟨tb_callB hts pm.1 hl hR rfl rfl, hts _ pm.2⟩ ⟨CPre.blind hZk, CPre.mk hZk hZ hS hK hW⟩ rfl hn hsz rfl (lv_room hcat) hdg hf) hS (fun _ _ h => h) (fun _ h => h) (fun r1 u t1 H1 locs1 ht1 hvm hw hB hz1 hk1 hS1 => ?_)
  subst hw
  rw [ht1] at hB
  exact kk H1 locs1 hB hS1
theorem tb_cSZ (hZk : ZOK A Z) (hx : p.tables.exec = Jvm.exec) (hb : c.code = cc) {nL : Nat} (hml : c.maxLocals = nL) {own : String} (hown : s.vm.findClass own = some m.cls) (hts : ∀ w ∈ lw_tg, w.before args s = true) (hK : va_K D vwCl (tysA cy) s) (hZ : Z s s.heap) (hW : Wd D cy A cn ad M H) (hS : va_S A s.heap H locs) {y : MethodName} {bytes : ByteArray} {maxL index n fr lo : Nat} {ret : Option FieldType} {M' : Mem} {r : Int32} (As : List Value) (hM : Met l y (wt y bytes maxL ret) (rm fr lo) (CPre D cy A Z cn ad M As) (QZ D cy A cn ad r M') 0 0 A) (pm : PMs y bytes maxL ret n) (hl : Cond.methodLink own index y ∈ lw_tg) (hR : fr + 1 ≤ R.frames ∧ 8 + (maxL + 11) + lo ≤ R.locals) (hn : As.length = n) (hsz : ls.size = nL) (hcat : (rest.map fun v => v.category).sum ≤ 8) (hf : cells + 0 ≤ R.cells ∧ slots + 0 ≤ R.slots) {st : List Value} (hst : st = As.reverse ++ rest) (hdg : decode cc pc = .ok (.invokestatic index, 3)) (kk : ∀ (H1 : Heap) (locs1 : List Loc), Wd D cy A cn ad M' H1 → va_S A s.heap H1 locs1 → (r = 0 ∨ r = 1) → W p l e R s m args below meth c H1 locs1 cells slots Q (F0 m (pc + 3) ls (.int r :: rest))) : W p l e R s m args below meth c H locs cells slots Q (F0 m pc ls st) := by
  subst hst
  refine va_calli (va_runS (As := As) (rest := rest) ⟨hx, hb, hml, hown, hts⟩ hM ⟨tb_callB hts pm.1 hl hR rfl rfl, hts _ pm.2⟩ ⟨CPre.blind hZk, CPre.mk hZk hZ hS hK hW⟩ rfl hn hsz rfl (lv_room hcat) hdg hf) hS (fun _ _ h => h) (fun _ h => h) (fun r1 u t1 H1 locs1 ht1 hvm hw hB hz1 hk1 hS1 => ?_)
  obtain ⟨rfl, hz⟩ := hw
  rw [ht1] at hB
  exact kk H1 locs1 hB hS1 hz
theorem tb_cSL (hZk : ZOK A Z) (hx : p.tables.exec = Jvm.exec) (hb : c.code = cc) {nL : Nat} (hml : c.maxLocals = nL) {own : String} (hown : s.vm.findClass own = some m.cls) (hts : ∀ w ∈ lw_tg, w.before args s = true) (hK : va_K D vwCl (tysA cy) s) (hZ : Z s s.heap) (hW : Wd D cy A cn ad M H) (hS : va_S A s.heap H locs) {y : MethodName} {bytes : ByteArray} {maxL index n fr lo : Nat} {ret : Option FieldType} {M' : Mem} {r : Int64} (As : List Value) (hM : Met l y (wt y bytes maxL ret) (rm fr lo) (CPre D cy A Z cn ad M As) (QL D cy A cn ad r M') 0 0 A) (pm : PMs y bytes maxL ret n) (hl : Cond.methodLink own index y ∈ lw_tg) (hR : fr + 1 ≤ R.frames ∧ 8 + (maxL + 11) + lo ≤ R.locals) (hn : As.length = n) (hsz : ls.size = nL) (hcat : (rest.map fun v => v.category).sum ≤ 8) (hf : cells + 0 ≤ R.cells ∧ slots + 0 ≤ R.slots) {st : List Value} (hst : st = As.reverse ++ rest) (hdg : decode cc pc = .ok (.invokestatic index, 3)) (kk : ∀ (H1 : Heap) (locs1 : List Loc), Wd D cy A cn ad M' H1 → va_S A s.heap H1 locs1 → W p l e R s m args below meth c H1 locs1 cells slots Q (F0 m (pc + 3) ls (.long r :: rest))) : W p l e R s m args below meth c H locs cells slots Q (F0 m pc ls st) := by
  subst hst
  refine va_calll (va_runS (As := As) (rest := rest) ⟨hx, hb, hml, hown, hts⟩ hM ⟨tb_callB hts pm.1 hl hR rfl rfl, hts _ pm.2⟩ ⟨CPre.blind hZk, CPre.mk hZk hZ hS hK hW⟩ rfl hn hsz rfl (lv_room hcat) hdg hf) hS (fun _ _ h => h) (fun _ h => h) (fun r1 u t1 H1 locs1 ht1 hvm hw hB hz1 hk1 hS1 => ?_)
  subst hw
  rw [ht1] at hB
  exact kk H1 locs1 hB hS1
theorem tb_cSV (hZk : ZOK A Z) (hx : p.tables.exec = Jvm.exec) (hb : c.code = cc) {nL : Nat} (hml : c.maxLocals = nL) {own : String} (hown : s.vm.findClass own = some m.cls) (hts : ∀ w ∈ lw_tg, w.before args s = true) (hK : va_K D vwCl (tysA cy) s) (hZ : Z s s.heap) (hW : Wd D cy A cn ad M H) (hS : va_S A s.heap H locs) {y : MethodName} {bytes : ByteArray} {maxL index n fr lo : Nat} {ret : Option FieldType} {M' : Mem} {r : Unit} (As : List Value) (hM : Met l y (wt y bytes maxL ret) (rm fr lo) (CPre D cy A Z cn ad M As) (QV D cy A cn ad r M') 0 0 A) (pm : PMs y bytes maxL ret n) (hl : Cond.methodLink own index y ∈ lw_tg) (hR : fr + 1 ≤ R.frames ∧ 8 + (maxL + 11) + lo ≤ R.locals) (hn : As.length = n) (hsz : ls.size = nL) (hcat : (rest.map fun v => v.category).sum ≤ 8) (hf : cells + 0 ≤ R.cells ∧ slots + 0 ≤ R.slots) {st : List Value} (hst : st = As.reverse ++ rest) (hdg : decode cc pc = .ok (.invokestatic index, 3)) (kk : ∀ (H1 : Heap) (locs1 : List Loc), Wd D cy A cn ad M' H1 → va_S A s.heap H1 locs1 → W p l e R s m args below meth c H1 locs1 cells slots Q (F0 m (pc + 3) ls rest)) : W p l e R s m args below meth c H locs cells slots Q (F0 m pc ls st) := by
  subst hst
  refine va_callv (va_runS (As := As) (rest := rest) ⟨hx, hb, hml, hown, hts⟩ hM ⟨tb_callB hts pm.1 hl hR rfl rfl, hts _ pm.2⟩ ⟨CPre.blind hZk, CPre.mk hZk hZ hS hK hW⟩ rfl hn hsz rfl (lv_room hcat) hdg hf) hS (fun _ _ h => h) (fun _ h => h) (fun u t1 H1 locs1 ht1 hvm hw hB hz1 hk1 hS1 => ?_)
  rw [ht1] at hB
  exact kk H1 locs1 hB hS1
theorem tb_cSR (hZk : ZOK A Z) (hx : p.tables.exec = Jvm.exec) (hb : c.code = cc) {nL : Nat} (hml : c.maxLocals = nL) {own : String} (hown : s.vm.findClass own = some m.cls) (hts : ∀ w ∈ lw_tg, w.before args s = true) (hK : va_K D vwCl (tysA cy) s) (hZ : Z s s.heap) (hW : Wd D cy A cn ad M H) (hS : va_S A s.heap H locs) {g : Nat} {y : MethodName} {bytes : ByteArray} {maxL index n fr lo : Nat} {ret : Option FieldType} {M' : Mem} {r : Option Nat} (As : List Value) (hM : Met l y (wt y bytes maxL ret) (rm fr lo) (CPre D cy A Z cn ad M As) (QR g D cy A cn ad r M') 0 0 A) (pm : PMs y bytes maxL ret n) (hl : Cond.methodLink own index y ∈ lw_tg) (hR : fr + 1 ≤ R.frames ∧ 8 + (maxL + 11) + lo ≤ R.locals) (hn : As.length = n) (hsz : ls.size = nL) (hcat : (rest.map fun v => v.category).sum ≤ 8) (hf : cells + 0 ≤ R.cells ∧ slots + 0 ≤ R.slots) {st : List Value} (hst : st = As.reverse ++ rest) (hdg : decode cc pc = .ok (.invokestatic index, 3)) (kk : ∀ (H1 : Heap) (locs1 : List Loc), Wd D cy A cn ad M' H1 → va_S A s.heap H1 locs1 → (∀ z, r = some z → z < cn g) → W p l e R s m args below meth c H1 locs1 cells slots Q (F0 m (pc + 3) ls (rv (ad g) r :: rest))) : W p l e R s m args below meth c H locs cells slots Q (F0 m pc ls st) := by
  subst hst
  refine va_callq (va_runS (As := As) (rest := rest) ⟨hx, hb, hml, hown, hts⟩ hM ⟨tb_callB hts pm.1 hl hR rfl rfl, hts _ pm.2⟩ ⟨CPre.blind hZk, CPre.mk hZk hZ hS hK hW⟩ rfl hn hsz rfl (lv_room hcat) hdg hf) hS (fun _ _ h => h) (fun _ h => h) (fun r1 u t1 H1 locs1 ht1 hvm hw hB hz1 hk1 hS1 => ?_)
  obtain ⟨rfl, hz⟩ := hw
  rw [ht1] at hB
  exact kk H1 locs1 hB hS1 hz
theorem tb_cNI (hZk : ZOK A Z) (hx : p.tables.exec = Jvm.exec) (hb : c.code = cc) {nL : Nat} (hml : c.maxLocals = nL) {own : String} (hown : s.vm.findClass own = some m.cls) (hts : ∀ w ∈ lw_tg, w.before args s = true) (hK : va_K D vwCl (tysA cy) s) (hZ : Z s s.heap) (hW : Wd D cy A cn ad M H) (hS : va_S A s.heap H locs) {y : MethodName} {bytes : ByteArray} {maxL index n fr lo : Nat} {ret : Option FieldType} {M' : Mem} {r : Int32} (As : List Value) (hM : Met l y (wt y bytes maxL ret) (rm fr lo) (CPre D cy A Z cn ad M As) (QI D cy A cn ad r M') 0 0 A) (pm : PMs y bytes maxL ret n) {host : String} (hl : va_Nw (.methodLinkNest own index y host) s) (hR : fr + 1 ≤ R.frames ∧ 8 + (maxL + 11) + lo ≤ R.locals) (hn : As.length = n) (hsz : ls.size = nL) (hcat : (rest.map fun v => v.category).sum ≤ 8) (hf : cells + 0 ≤ R.cells ∧ slots + 0 ≤ R.slots) {st : List Value} (hst : st = As.reverse ++ rest) (hdg : decode cc pc = .ok (.invokestatic index, 3)) (kk : ∀ (H1 : Heap) (locs1 : List Loc), Wd D cy A cn ad M' H1 → va_S A s.heap H1 locs1 → W p l e R s m args below meth c H1 locs1 cells slots Q (F0 m (pc + 3) ls (.int r :: rest))) : W p l e R s m args below meth c H locs cells slots Q (F0 m pc ls st) := by
  subst hst
  refine va_calli (va_runSN (As := As) (rest := rest) ⟨hx, hb, hml, hown, hts⟩ hM ⟨tb_callN hts pm.1 hl hR rfl rfl, hts _ pm.2, trivial⟩ ⟨CPre.blind hZk, CPre.mk hZk hZ hS hK hW⟩ rfl hn hsz rfl (lv_room hcat) hdg hf) hS (fun _ _ h => h) (fun _ h => h) (fun r1 u t1 H1 locs1 ht1 hvm hw hB hz1 hk1 hS1 => ?_)
  subst hw
  rw [ht1] at hB
  exact kk H1 locs1 hB hS1
theorem tb_cNZ (hZk : ZOK A Z) (hx : p.tables.exec = Jvm.exec) (hb : c.code = cc) {nL : Nat} (hml : c.maxLocals = nL) {own : String} (hown : s.vm.findClass own = some m.cls) (hts : ∀ w ∈ lw_tg, w.before args s = true) (hK : va_K D vwCl (tysA cy) s) (hZ : Z s s.heap) (hW : Wd D cy A cn ad M H) (hS : va_S A s.heap H locs) {y : MethodName} {bytes : ByteArray} {maxL index n fr lo : Nat} {ret : Option FieldType} {M' : Mem} {r : Int32} (As : List Value) (hM : Met l y (wt y bytes maxL ret) (rm fr lo) (CPre D cy A Z cn ad M As) (QZ D cy A cn ad r M') 0 0 A) (pm : PMs y bytes maxL ret n) {host : String} (hl : va_Nw (.methodLinkNest own index y host) s) (hR : fr + 1 ≤ R.frames ∧ 8 + (maxL + 11) + lo ≤ R.locals) (hn : As.length = n) (hsz : ls.size = nL) (hcat : (rest.map fun v => v.category).sum ≤ 8) (hf : cells + 0 ≤ R.cells ∧ slots + 0 ≤ R.slots) {st : List Value} (hst : st = As.reverse ++ rest) (hdg : decode cc pc = .ok (.invokestatic index, 3)) (kk : ∀ (H1 : Heap) (locs1 : List Loc), Wd D cy A cn ad M' H1 → va_S A s.heap H1 locs1 → (r = 0 ∨ r = 1) → W p l e R s m args below meth c H1 locs1 cells slots Q (F0 m (pc + 3) ls (.int r :: rest))) : W p l e R s m args below meth c H locs cells slots Q (F0 m pc ls st) := by
  subst hst
  refine va_calli (va_runSN (As := As) (rest := rest) ⟨hx, hb, hml, hown, hts⟩ hM ⟨tb_callN hts pm.1 hl hR rfl rfl, hts _ pm.2, trivial⟩ ⟨CPre.blind hZk, CPre.mk hZk hZ hS hK hW⟩ rfl hn hsz rfl (lv_room hcat) hdg hf) hS (fun _ _ h => h) (fun _ h => h) (fun r1 u t1 H1 locs1 ht1 hvm hw hB hz1 hk1 hS1 => ?_)
  obtain ⟨rfl, hz⟩ := hw
  rw [ht1] at hB
  exact kk H1 locs1 hB hS1 hz
theorem tb_cNL (hZk : ZOK A Z) (hx : p.tables.exec = Jvm.exec) (hb : c.code = cc) {nL : Nat} (hml : c.maxLocals = nL) {own : String} (hown : s.vm.findClass own = some m.cls) (hts : ∀ w ∈ lw_tg, w.before args s = true) (hK : va_K D vwCl (tysA cy) s) (hZ : Z s s.heap) (hW : Wd D cy A cn ad M H) (hS : va_S A s.heap H locs) {y : MethodName} {bytes : ByteArray} {maxL index n fr lo : Nat} {ret : Option FieldType} {M' : Mem} {r : Int64} (As : List Value) (hM : Met l y (wt y bytes maxL ret) (rm fr lo) (CPre D cy A Z cn ad M As) (QL D cy A cn ad r M') 0 0 A) (pm : PMs y bytes maxL ret n) {host : String} (hl : va_Nw (.methodLinkNest own index y host) s) (hR : fr + 1 ≤ R.frames ∧ 8 + (maxL + 11) + lo ≤ R.locals) (hn : As.length = n) (hsz : ls.size = nL) (hcat : (rest.map fun v => v.category).sum ≤ 8) (hf : cells + 0 ≤ R.cells ∧ slots + 0 ≤ R.slots) {st : List Value} (hst : st = As.reverse ++ rest) (hdg : decode cc pc = .ok (.invokestatic index, 3)) (kk : ∀ (H1 : Heap) (locs1 : List Loc), Wd D cy A cn ad M' H1 → va_S A s.heap H1 locs1 → W p l e R s m args below meth c H1 locs1 cells slots Q (F0 m (pc + 3) ls (.long r :: rest))) : W p l e R s m args below meth c H locs cells slots Q (F0 m pc ls st) := by
  subst hst
  refine va_calll (va_runSN (As := As) (rest := rest) ⟨hx, hb, hml, hown, hts⟩ hM ⟨tb_callN hts pm.1 hl hR rfl rfl, hts _ pm.2, trivial⟩ ⟨CPre.blind hZk, CPre.mk hZk hZ hS hK hW⟩ rfl hn hsz rfl (lv_room hcat) hdg hf) hS (fun _ _ h => h) (fun _ h => h) (fun r1 u t1 H1 locs1 ht1 hvm hw hB hz1 hk1 hS1 => ?_)
  subst hw
  rw [ht1] at hB
  exact kk H1 locs1 hB hS1
theorem tb_cNV (hZk : ZOK A Z) (hx : p.tables.exec = Jvm.exec) (hb : c.code = cc) {nL : Nat} (hml : c.maxLocals = nL) {own : String} (hown : s.vm.findClass own = some m.cls) (hts : ∀ w ∈ lw_tg, w.before args s = true) (hK : va_K D vwCl (tysA cy) s) (hZ : Z s s.heap) (hW : Wd D cy A cn ad M H) (hS : va_S A s.heap H locs) {y : MethodName} {bytes : ByteArray} {maxL index n fr lo : Nat} {ret : Option FieldType} {M' : Mem} {r : Unit} (As : List Value) (hM : Met l y (wt y bytes maxL ret) (rm fr lo) (CPre D cy A Z cn ad M As) (QV D cy A cn ad r M') 0 0 A) (pm : PMs y bytes maxL ret n) {host : String} (hl : va_Nw (.methodLinkNest own index y host) s) (hR : fr + 1 ≤ R.frames ∧ 8 + (maxL + 11) + lo ≤ R.locals) (hn : As.length = n) (hsz : ls.size = nL) (hcat : (rest.map fun v => v.category).sum ≤ 8) (hf : cells + 0 ≤ R.cells ∧ slots + 0 ≤ R.slots) {st : List Value} (hst : st = As.reverse ++ rest) (hdg : decode cc pc = .ok (.invokestatic index, 3)) (kk : ∀ (H1 : Heap) (locs1 : List Loc), Wd D cy A cn ad M' H1 → va_S A s.heap H1 locs1 → W p l e R s m args below meth c H1 locs1 cells slots Q (F0 m (pc + 3) ls rest)) : W p l e R s m args below meth c H locs cells slots Q (F0 m pc ls st) := by
  subst hst
  refine va_callv (va_runSN (As := As) (rest := rest) ⟨hx, hb, hml, hown, hts⟩ hM ⟨tb_callN hts pm.1 hl hR rfl rfl, hts _ pm.2, trivial⟩ ⟨CPre.blind hZk, CPre.mk hZk hZ hS hK hW⟩ rfl hn hsz rfl (lv_room hcat) hdg hf) hS (fun _ _ h => h) (fun _ h => h) (fun u t1 H1 locs1 ht1 hvm hw hB hz1 hk1 hS1 => ?_)
  rw [ht1] at hB
  exact kk H1 locs1 hB hS1
theorem tb_cNR (hZk : ZOK A Z) (hx : p.tables.exec = Jvm.exec) (hb : c.code = cc) {nL : Nat} (hml : c.maxLocals = nL) {own : String} (hown : s.vm.findClass own = some m.cls) (hts : ∀ w ∈ lw_tg, w.before args s = true) (hK : va_K D vwCl (tysA cy) s) (hZ : Z s s.heap) (hW : Wd D cy A cn ad M H) (hS : va_S A s.heap H locs) {g : Nat} {y : MethodName} {bytes : ByteArray} {maxL index n fr lo : Nat} {ret : Option FieldType} {M' : Mem} {r : Option Nat} (As : List Value) (hM : Met l y (wt y bytes maxL ret) (rm fr lo) (CPre D cy A Z cn ad M As) (QR g D cy A cn ad r M') 0 0 A) (pm : PMs y bytes maxL ret n) {host : String} (hl : va_Nw (.methodLinkNest own index y host) s) (hR : fr + 1 ≤ R.frames ∧ 8 + (maxL + 11) + lo ≤ R.locals) (hn : As.length = n) (hsz : ls.size = nL) (hcat : (rest.map fun v => v.category).sum ≤ 8) (hf : cells + 0 ≤ R.cells ∧ slots + 0 ≤ R.slots) {st : List Value} (hst : st = As.reverse ++ rest) (hdg : decode cc pc = .ok (.invokestatic index, 3)) (kk : ∀ (H1 : Heap) (locs1 : List Loc), Wd D cy A cn ad M' H1 → va_S A s.heap H1 locs1 → (∀ z, r = some z → z < cn g) → W p l e R s m args below meth c H1 locs1 cells slots Q (F0 m (pc + 3) ls (rv (ad g) r :: rest))) : W p l e R s m args below meth c H locs cells slots Q (F0 m pc ls st) := by
  subst hst
  refine va_callq (va_runSN (As := As) (rest := rest) ⟨hx, hb, hml, hown, hts⟩ hM ⟨tb_callN hts pm.1 hl hR rfl rfl, hts _ pm.2, trivial⟩ ⟨CPre.blind hZk, CPre.mk hZk hZ hS hK hW⟩ rfl hn hsz rfl (lv_room hcat) hdg hf) hS (fun _ _ h => h) (fun _ h => h) (fun r1 u t1 H1 locs1 ht1 hvm hw hB hz1 hk1 hS1 => ?_)
  obtain ⟨rfl, hz⟩ := hw
  rw [ht1] at hB
  exact kk H1 locs1 hB hS1 hz
end CL
/-- a method's contract out of the walk of its body, also where its class is the library's -/
theorem tb_ofW {l : Launch} {y : MethodName} {cc : ByteArray} {maxL : Nat} {ret : Option FieldType} {r0 : Room} {Pc : Array Value → State → Prop} {Qc : Array Value → State → Outcome → State → Prop} {free : Addr → Prop} (hy : plainFor y = true)
    (body : ∀ p e s m args below meth c s₁, BodyLoose p l y (headSpec (wt y cc maxL ret) r0) cc maxL ret e s m args below meth c s₁ → c.maxLocals = maxL → Pc args s →
      W p l e (headSpec (wt y cc maxL ret) r0).room s m args below meth c s.heap [] 0 0 (MQ below Qc args s 0 0 free) (entryFrame m args maxL)) : Met l y (wt y cc maxL ret) r0 Pc Qc 0 0 free := by
  refine MetFree.of_bodySF (code := cc) (maxLocals := maxL) (ret := ret) hy ?_ ?_
  · intro args s m h hn
    obtain ⟨meth, c, h1, h2, h3, h4, h5, h6, -, -⟩ := Cond.code_spec hn (atoms_spec (ws := wt y cc maxL ret) h _ List.mem_cons_self)
    exact ⟨meth, c, h1, h2, h3, h4, h5, h6⟩
  · intro p e s m args below meth c s₁ B hml hP _
    have hh0 : s₁.heap = s.heap := by rw [B.state]; rfl
    obtain ⟨t, a1, o, b1, b2, b3⟩ := body p e s m args below meth c s₁ B hml hP s₁ hh0 (Stand.of_body B)
    exact ⟨t, o, a1, b1, b2, ⟨b3.1, b3.2⟩⟩
/-- a method's start -/
theorem tb_start {l : Launch} {y : MethodName} {cc : ByteArray} {maxL : Nat} {ret : Option FieldType} {fr lo : Nat} {D : va_G} {cy : Nat → ClassId} {A : Nat → Prop} {Z : State → Heap → Prop} {cn : Nat → Nat} {ad : Nat → Nat → Nat} {M : Mem} {Qc : Array Value → State → Outcome → State → Prop} (av : List Value) (lv0 : List (Nat × Value)) (own : String) (hown : y.cls = own) (hy : plainFor y = true) (hlen : (lg_sl av).length ≤ maxL) (hlv : lv_args 0 av = lv0)
    (body : ∀ (p : Program) (e : Env) (s : State) (m : MethodId) (args : Array Value) (below : List Frame) (meth : Method) (c : Code), p.tables.exec = Jvm.exec → c.code = cc → meth.sig.returnType = ret → c.maxLocals = maxL → s.vm.findClass own = some m.cls → (∀ w ∈ lw_tg, w.before args s = true) → meth.locks = false → Wd D cy A cn ad M s.heap → va_K D vwCl (tysA cy) s → Z s s.heap → ∀ ls : Array Slot, lv_has ls maxL lv0 →
      W p l e (rm fr lo) s m args below meth c s.heap [] 0 0 (MQ below Qc args s 0 0 A) (F0 m 0 ls [])) : Met l y (wt y cc maxL ret) (rm fr lo) (CPre D cy A Z cn ad M av) Qc 0 0 A := by
  subst hown
  refine tb_ofW hy ?_
  intro p e s m args below meth c s₁ B hml hv
  obtain ⟨rfl, hW, hK, hZ⟩ := hv
  have hts0 := atoms_spec (ws := wt y cc maxL ret) B.pre
  have hl := lv_entry av (n := maxL) hlen
  rw [lg_entry_eq]
  generalize (lg_sl av ++ List.replicate (maxL - (lg_sl av).length) Slot.unset).toArray = ls at hl ⊢
  rw [hlv] at hl
  exact body p e s m _ below meth c B.exec B.bytes B.returns hml (findClass_of_methodNamed B.named) (fun w hw => hts0 w (List.mem_cons_of_mem _ hw)) B.notSynchronized hW hK hZ ls hl
section RT
variable {p : Program} {l : Launch} {e : Env} {R : Room} {s : State} {m : MethodId} {args : Array Value} {below : List Frame} {meth : Method} {c : Code} {H : Heap} {locs : List Loc} {cells slots : Nat} {Q : State → Prop}
variable {cc : ByteArray} {pc : Nat} {ls : Array Slot} {rest : List Value} {D : va_G} {cy : Nat → ClassId} {A : Nat → Prop} {cn : Nat → Nat} {ad : Nat → Nat → Nat} {M : Mem}

theorem tb_iretE {M1 M' : Mem} {v r : Int32} (h : some (v, M1) = some (r, M')) (hx : p.tables.exec = Jvm.exec) (hb : c.code = cc) (hr : meth.sig.returnType = some .int) (hS : va_S A s.heap H locs) (hW : Wd D cy A cn ad M1 H) (hlocks : meth.locks = false) (hdg : decode cc pc = .ok (.ireturn, 1)) : W p l e R s m args below meth c H locs 0 0 (MQ below (QI D cy A cn ad r M') args s 0 0 A) (F0 m pc ls [.int v]) := by
  cases h
  exact W.iret hx hb hr (fun t ht hW' => ⟨⟨v, (), rfl, rfl, by show Wd D cy A cn ad _ t.heap; rw [ht]; exact hW⟩, hS.F ht⟩) hS.2.2 hdg hlocks
theorem tb_iretO {v r : Int32} (h : some v = some r) (hx : p.tables.exec = Jvm.exec) (hb : c.code = cc) (hr : meth.sig.returnType = some .int) (hS : va_S A s.heap H locs) (hW : Wd D cy A cn ad M H) (hlocks : meth.locks = false) (hdg : decode cc pc = .ok (.ireturn, 1)) : W p l e R s m args below meth c H locs 0 0 (MQ below (QI D cy A cn ad r M) args s 0 0 A) (F0 m pc ls [.int v]) := by
  cases h
  exact W.iret hx hb hr (fun t ht hW' => ⟨⟨v, (), rfl, rfl, by show Wd D cy A cn ad _ t.heap; rw [ht]; exact hW⟩, hS.F ht⟩) hS.2.2 hdg hlocks
theorem tb_iretP {v r : Int32} (h : v = r) (hx : p.tables.exec = Jvm.exec) (hb : c.code = cc) (hr : meth.sig.returnType = some .int) (hS : va_S A s.heap H locs) (hW : Wd D cy A cn ad M H) (hlocks : meth.locks = false) (hdg : decode cc pc = .ok (.ireturn, 1)) : W p l e R s m args below meth c H locs 0 0 (MQ below (QI D cy A cn ad r M) args s 0 0 A) (F0 m pc ls [.int v]) := by
  cases h
  exact W.iret hx hb hr (fun t ht hW' => ⟨⟨v, (), rfl, rfl, by show Wd D cy A cn ad _ t.heap; rw [ht]; exact hW⟩, hS.F ht⟩) hS.2.2 hdg hlocks
theorem tb_lretE {M1 M' : Mem} {v r : Int64} (h : some (v, M1) = some (r, M')) (hx : p.tables.exec = Jvm.exec) (hb : c.code = cc) (hr : meth.sig.returnType = some .long) (hS : va_S A s.heap H locs) (hW : Wd D cy A cn ad M1 H) (hlocks : meth.locks = false) (hdg : decode cc pc = .ok (.lreturn, 1)) : W p l e R s m args below meth c H locs 0 0 (MQ below (QL D cy A cn ad r M') args s 0 0 A) (F0 m pc ls [.long v]) := by
  cases h
  exact W.lret hx hb hr (fun t ht hW' => ⟨⟨v, (), rfl, rfl, by show Wd D cy A cn ad _ t.heap; rw [ht]; exact hW⟩, hS.F ht⟩) hS.2.2 hdg hlocks
theorem tb_lretO {v r : Int64} (h : some v = some r) (hx : p.tables.exec = Jvm.exec) (hb : c.code = cc) (hr : meth.sig.returnType = some .long) (hS : va_S A s.heap H locs) (hW : Wd D cy A cn ad M H) (hlocks : meth.locks = false) (hdg : decode cc pc = .ok (.lreturn, 1)) : W p l e R s m args below meth c H locs 0 0 (MQ below (QL D cy A cn ad r M) args s 0 0 A) (F0 m pc ls [.long v]) := by
  cases h
  exact W.lret hx hb hr (fun t ht hW' => ⟨⟨v, (), rfl, rfl, by show Wd D cy A cn ad _ t.heap; rw [ht]; exact hW⟩, hS.F ht⟩) hS.2.2 hdg hlocks
theorem tb_lretP {v r : Int64} (h : v = r) (hx : p.tables.exec = Jvm.exec) (hb : c.code = cc) (hr : meth.sig.returnType = some .long) (hS : va_S A s.heap H locs) (hW : Wd D cy A cn ad M H) (hlocks : meth.locks = false) (hdg : decode cc pc = .ok (.lreturn, 1)) : W p l e R s m args below meth c H locs 0 0 (MQ below (QL D cy A cn ad r M) args s 0 0 A) (F0 m pc ls [.long v]) := by
  cases h
  exact W.lret hx hb hr (fun t ht hW' => ⟨⟨v, (), rfl, rfl, by show Wd D cy A cn ad _ t.heap; rw [ht]; exact hW⟩, hS.F ht⟩) hS.2.2 hdg hlocks
theorem tb_zretE {M1 M' : Mem} {v r : Int32} (h : some (v, M1) = some (r, M')) (hx : p.tables.exec = Jvm.exec) (hb : c.code = cc) (hr : meth.sig.returnType = some .boolean) (hS : va_S A s.heap H locs) (hW : Wd D cy A cn ad M1 H) (hlocks : meth.locks = false) (hz : v = 0 ∨ v = 1) (hdg : decode cc pc = .ok (.ireturn, 1)) : W p l e R s m args below meth c H locs 0 0 (MQ below (QZ D cy A cn ad r M') args s 0 0 A) (F0 m pc ls [.int v]) := by
  cases h
  exact W.zret hx hb hr (by rcases hz with rfl | rfl <;> rfl) (fun t ht hW' => ⟨⟨v, (), rfl, ⟨rfl, hz⟩, by show Wd D cy A cn ad _ t.heap; rw [ht]; exact hW⟩, hS.F ht⟩) hS.2.2 hdg hlocks
theorem tb_zretO {v r : Int32} (h : some v = some r) (hx : p.tables.exec = Jvm.exec) (hb : c.code = cc) (hr : meth.sig.returnType = some .boolean) (hS : va_S A s.heap H locs) (hW : Wd D cy A cn ad M H) (hlocks : meth.locks = false) (hz : v = 0 ∨ v = 1) (hdg : decode cc pc = .ok (.ireturn, 1)) : W p l e R s m args below meth c H locs 0 0 (MQ below (QZ D cy A cn ad r M) args s 0 0 A) (F0 m pc ls [.int v]) := by
  cases h
  exact W.zret hx hb hr (by rcases hz with rfl | rfl <;> rfl) (fun t ht hW' => ⟨⟨v, (), rfl, ⟨rfl, hz⟩, by show Wd D cy A cn ad _ t.heap; rw [ht]; exact hW⟩, hS.F ht⟩) hS.2.2 hdg hlocks
theorem tb_zretP {v r : Int32} (h : v = r) (hx : p.tables.exec = Jvm.exec) (hb : c.code = cc) (hr : meth.sig.returnType = some .boolean) (hS : va_S A s.heap H locs) (hW : Wd D cy A cn ad M H) (hlocks : meth.locks = false) (hz : v = 0 ∨ v = 1) (hdg : decode cc pc = .ok (.ireturn, 1)) : W p l e R s m args below meth c H locs 0 0 (MQ below (QZ D cy A cn ad r M) args s 0 0 A) (F0 m pc ls [.int v]) := by
  cases h
  exact W.zret hx hb hr (by rcases hz with rfl | rfl <;> rfl) (fun t ht hW' => ⟨⟨v, (), rfl, ⟨rfl, hz⟩, by show Wd D cy A cn ad _ t.heap; rw [ht]; exact hW⟩, hS.F ht⟩) hS.2.2 hdg hlocks
theorem tb_vretE {M1 M' : Mem} {r : Unit} (h : some ((), M1) = some (r, M')) (hx : p.tables.exec = Jvm.exec) (hb : c.code = cc) (hr : meth.sig.returnType = none) (hS : va_S A s.heap H locs) (hW : Wd D cy A cn ad M1 H) (hlocks : meth.locks = false) (hdg : decode cc pc = .ok (.return_, 1)) : W p l e R s m args below meth c H locs 0 0 (MQ below (QV D cy A cn ad r M') args s 0 0 A) (F0 m pc ls []) := by
  cases h
  exact W.vret hx hb hr (fun t ht hW' => ⟨⟨(), rfl, trivial, by show Wd D cy A cn ad _ t.heap; rw [ht]; exact hW⟩, hS.F ht⟩) hS.2.2 hdg hlocks
theorem tb_vretO {r : Unit} (h : some () = some r) (hx : p.tables.exec = Jvm.exec) (hb : c.code = cc) (hr : meth.sig.returnType = none) (hS : va_S A s.heap H locs) (hW : Wd D cy A cn ad M H) (hlocks : meth.locks = false) (hdg : decode cc pc = .ok (.return_, 1)) : W p l e R s m args below meth c H locs 0 0 (MQ below (QV D cy A cn ad r M) args s 0 0 A) (F0 m pc ls []) := by
  cases h
  exact W.vret hx hb hr (fun t ht hW' => ⟨⟨(), rfl, trivial, by show Wd D cy A cn ad _ t.heap; rw [ht]; exact hW⟩, hS.F ht⟩) hS.2.2 hdg hlocks
theorem tb_rretE {M1 M' : Mem} {v r : Option Nat} (h : some (v, M1) = some (r, M')) {g : Nat} (hg : ∀ z, v = some z → z < cn g) (hx : p.tables.exec = Jvm.exec) (hb : c.code = cc) {rt : FieldType} (hr : meth.sig.returnType = some rt) (hrt : (∃ n, rt = .object n) ∨ ∃ t, rt = .array t) (hS : va_S A s.heap H locs) (hW : Wd D cy A cn ad M1 H) (hlocks : meth.locks = false) (hdg : decode cc pc = .ok (.areturn, 1)) : W p l e R s m args below meth c H locs 0 0 (MQ below (QR g D cy A cn ad r M') args s 0 0 A) (F0 m pc ls [rv (ad g) v]) := by
  cases h
  exact W.aret hx hb hr hrt (by cases v with
    | none => exact Or.inl rfl
    | some z => exact Or.inr ⟨_, rfl⟩) (fun t ht hW' => ⟨⟨v.map (ad g), (), rfl, ⟨rfl, hg⟩, by show Wd D cy A cn ad _ t.heap; rw [ht]; exact hW⟩, hS.F ht⟩) hS.2.2 hdg hlocks
theorem tb_rretO {v r : Option Nat} (h : some v = some r) {g : Nat} (hg : ∀ z, v = some z → z < cn g) (hx : p.tables.exec = Jvm.exec) (hb : c.code = cc) {rt : FieldType} (hr : meth.sig.returnType = some rt) (hrt : (∃ n, rt = .object n) ∨ ∃ t, rt = .array t) (hS : va_S A s.heap H locs) (hW : Wd D cy A cn ad M H) (hlocks : meth.locks = false) (hdg : decode cc pc = .ok (.areturn, 1)) : W p l e R s m args below meth c H locs 0 0 (MQ below (QR g D cy A cn ad r M) args s 0 0 A) (F0 m pc ls [rv (ad g) v]) := by
  cases h
  exact W.aret hx hb hr hrt (by cases v with
    | none => exact Or.inl rfl
    | some z => exact Or.inr ⟨_, rfl⟩) (fun t ht hW' => ⟨⟨v.map (ad g), (), rfl, ⟨rfl, hg⟩, by show Wd D cy A cn ad _ t.heap; rw [ht]; exact hW⟩, hS.F ht⟩) hS.2.2 hdg hlocks
theorem tb_rretP {v r : Option Nat} (h : v = r) {g : Nat} (hg : ∀ z, v = some z → z < cn g) (hx : p.tables.exec = Jvm.exec) (hb : c.code = cc) {rt : FieldType} (hr : meth.sig.returnType = some rt) (hrt : (∃ n, rt = .object n) ∨ ∃ t, rt = .array t) (hS : va_S A s.heap H locs) (hW : Wd D cy A cn ad M H) (hlocks : meth.locks = false) (hdg : decode cc pc = .ok (.areturn, 1)) : W p l e R s m args below meth c H locs 0 0 (MQ below (QR g D cy A cn ad r M) args s 0 0 A) (F0 m pc ls [rv (ad g) v]) := by
  cases h
  exact W.aret hx hb hr hrt (by cases v with
    | none => exact Or.inl rfl
    | some z => exact Or.inr ⟨_, rfl⟩) (fun t ht hW' => ⟨⟨v.map (ad g), (), rfl, ⟨rfl, hg⟩, by show Wd D cy A cn ad _ t.heap; rw [ht]; exact hW⟩, hS.F ht⟩) hS.2.2 hdg hlocks
end RT
/-! the pieces of the functions that say what methods answer -/
def nm {α ρ : Type} (e : α) (k : α → ρ) : ρ := k e
theorem nm_a {α ρ : Type} {e v : α} (hv : v = e) {k : α → ρ} {x : ρ} (h : nm e k = x) : k v = x := by
  subst hv
  exact h
theorem sh_t {α : Type} {c : Prop} {i : Decidable c} {a b x : α} (hc : c) (h : (if c then a else b) = x) : a = x := by rw [if_pos hc] at h; exact h
theorem sh_f {α : Type} {c : Prop} {i : Decidable c} {a b x : α} (hc : ¬ c) (h : (if c then a else b) = x) : b = x := by rw [if_neg hc] at h; exact h
def ix {ρ : Type} (x : Int32) (n : Nat) (k : Option ρ) : Option ρ := if 0 ≤ x.toInt ∧ x.toInt < (n : Int) then k else none
theorem ix_a {ρ : Type} {x : Int32} {n : Nat} {k : Option ρ} {r : ρ} (h : ix x n k = some r) : vp_in x n ∧ k = some r := by
  unfold ix at h
  by_cases hc : 0 ≤ x.toInt ∧ x.toInt < (n : Int)
  · rw [if_pos hc] at h
    exact ⟨vp_in_iff.mpr hc, h⟩
  · rw [if_neg hc] at h
    cases h
def nzI {ρ : Type} (y : Int32) (k : Option ρ) : Option ρ := if y = 0 then none else k
def nzL {ρ : Type} (y : Int64) (k : Option ρ) : Option ρ := if y = 0 then none else k
theorem nzI_a {ρ : Type} {y : Int32} {k : Option ρ} {r : ρ} (h : nzI y k = some r) : ¬ y = 0 ∧ k = some r := by
  unfold nzI at h
  by_cases hc : y = 0
  · rw [if_pos hc] at h; cases h
  · rw [if_neg hc] at h; exact ⟨hc, h⟩
theorem nzL_a {ρ : Type} {y : Int64} {k : Option ρ} {r : ρ} (h : nzL y k = some r) : ¬ y = 0 ∧ k = some r := by
  unfold nzL at h
  by_cases hc : y = 0
  · rw [if_pos hc] at h; cases h
  · rw [if_neg hc] at h; exact ⟨hc, h⟩
def oc {ρ : Type} (o : Option Nat) (a : ρ) (b : Nat → ρ) : ρ := match o with
  | none => a
  | some i => b i
theorem oc_n {ρ : Type} {o : Option Nat} (ho : o = none) {a : ρ} {b : Nat → ρ} {x : ρ} (h : oc o a b = x) : a = x := by subst ho; exact h
theorem oc_s {ρ : Type} {o : Option Nat} {i : Nat} (ho : o = some i) {a : ρ} {b : Nat → ρ} {x : ρ} (h : oc o a b = x) : b i = x := by subst ho; exact h
theorem oc_d {ρ : Type} {o : Option Nat} {b : Nat → Option ρ} {x : ρ} (h : oc o none b = some x) : ∃ i, o = some i ∧ b i = some x := by
  cases o with
  | none => cases h
  | some i => exact ⟨i, rfl, h⟩
def bd {α ρ : Type} (o : Option α) (k : α → Option ρ) : Option ρ := match o with
  | none => none
  | some a => k a
theorem bd_a {α ρ : Type} {o : Option α} {k : α → Option ρ} {x : ρ} (h : bd o k = some x) : ∃ a, o = some a ∧ k a = some x := by
  cases o with
  | none => cases h
  | some a => exact ⟨a, rfl, h⟩
def bE {α ρ : Type} (o : Option (α × Mem)) (k : α → Mem → Option ρ) : Option ρ := match o with
  | none => none
  | some a => k a.1 a.2
theorem bE_a {α ρ : Type} {o : Option (α × Mem)} {k : α → Mem → Option ρ} {x : ρ} (h : bE o k = some x) : ∃ a M1, o = some (a, M1) ∧ k a M1 = some x := by
  cases o with
  | none => cases h
  | some a => exact ⟨a.1, a.2, rfl, h⟩
def lp {σ ρ : Type} (body : (σ → Option ρ) → σ → Option ρ) : Nat → σ → Option ρ
  | 0, _ => none
  | n + 1, x => body (lp body n) x
def FU : Nat := 100000
