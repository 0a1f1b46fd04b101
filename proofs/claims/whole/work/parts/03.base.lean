/-! the memory of a world: what each field of each object and each place of each row holds, by (field, object, place) -/
def rv (f : Nat → Nat) (o : Option Nat) : Value := va_rf (o.map f)
abbrev Mem : Type := (Nat → Nat → Nat → Int32) × (Nat → Nat → Nat → Int64) × (Nat → Nat → Nat → Option Nat)
def mgI (M : Mem) (f i j : Nat) : Int32 := M.1 f i j
def mgL (M : Mem) (f i j : Nat) : Int64 := M.2.1 f i j
def mgR (M : Mem) (f i j : Nat) : Option Nat := M.2.2 f i j
def msI (M : Mem) (f i j : Nat) (v : Int32) : Mem := (fun f' i' j' => if f' = f ∧ i' = i ∧ j' = j then v else M.1 f' i' j', M.2.1, M.2.2)
def msL (M : Mem) (f i j : Nat) (v : Int64) : Mem := (M.1, fun f' i' j' => if f' = f ∧ i' = i ∧ j' = j then v else M.2.1 f' i' j', M.2.2)
def msR (M : Mem) (f i j : Nat) (v : Option Nat) : Mem := (M.1, M.2.1, fun f' i' j' => if f' = f ∧ i' = i ∧ j' = j then v else M.2.2 f' i' j')
theorem mgI_I (M : Mem) (f i j : Nat) (v : Int32) (f' i' j' : Nat) : mgI (msI M f i j v) f' i' j' = if f' = f ∧ i' = i ∧ j' = j then v else mgI M f' i' j' := rfl
theorem mgL_L (M : Mem) (f i j : Nat) (v : Int64) (f' i' j' : Nat) : mgL (msL M f i j v) f' i' j' = if f' = f ∧ i' = i ∧ j' = j then v else mgL M f' i' j' := rfl
theorem mgR_R (M : Mem) (f i j : Nat) (v : Option Nat) (f' i' j' : Nat) : mgR (msR M f i j v) f' i' j' = if f' = f ∧ i' = i ∧ j' = j then v else mgR M f' i' j' := rfl
theorem mgI_L (M : Mem) (f i j : Nat) (v : Int64) (f' i' j' : Nat) : mgI (msL M f i j v) f' i' j' = mgI M f' i' j' := rfl
theorem mgI_R (M : Mem) (f i j : Nat) (v : Option Nat) (f' i' j' : Nat) : mgI (msR M f i j v) f' i' j' = mgI M f' i' j' := rfl
theorem mgL_I (M : Mem) (f i j : Nat) (v : Int32) (f' i' j' : Nat) : mgL (msI M f i j v) f' i' j' = mgL M f' i' j' := rfl
theorem mgL_R (M : Mem) (f i j : Nat) (v : Option Nat) (f' i' j' : Nat) : mgL (msR M f i j v) f' i' j' = mgL M f' i' j' := rfl
theorem mgR_I (M : Mem) (f i j : Nat) (v : Int32) (f' i' j' : Nat) : mgR (msI M f i j v) f' i' j' = mgR M f' i' j' := rfl
theorem mgR_L (M : Mem) (f i j : Nat) (v : Int64) (f' i' j' : Nat) : mgR (msL M f i j v) f' i' j' = mgR M f' i' j' := rfl
/-! the kinds of cells: objects 0 .. 12 (by place in vwCl), rows from 20 on. Of an object's field: (0 int, 1 long, 2 reference or null to kind .2.1, 3 the one object .2.2 of kind .2.1, 4 the object of kind .2.1 with the same number). Of a row: (what it is of, its length, the kind that it refers to) -/
def oTab : List (List (Nat × Nat × Nat)) := [
  [(3, 20, 0), (0, 0, 0), (0, 0, 0), (0, 0, 0), (0, 0, 0)],
  [(0, 0, 0), (0, 0, 0), (3, 21, 0), (3, 22, 0), (3, 23, 0), (3, 24, 0), (3, 5, 0), (3, 2, 0)],
  [(3, 25, 0), (0, 0, 0), (3, 26, 0), (3, 27, 0), (3, 5, 0)],
  [(3, 10, 0), (3, 10, 1), (0, 0, 0), (3, 28, 0), (3, 29, 0), (3, 30, 0), (3, 31, 0), (0, 0, 0), (3, 5, 0), (3, 2, 0)],
  [(0, 0, 0), (0, 0, 0), (2, 4, 0), (0, 0, 0), (0, 0, 0), (0, 0, 0)],
  [(3, 32, 0), (3, 33, 0), (0, 0, 0), (0, 0, 0), (0, 0, 0), (1, 0, 0), (3, 34, 0)],
  [(3, 35, 0), (3, 36, 0), (3, 37, 0), (3, 38, 0)],
  [(3, 10, 2), (0, 0, 0), (3, 39, 0), (0, 0, 0), (0, 0, 0)],
  [(0, 0, 0), (0, 0, 0), (0, 0, 0), (0, 0, 0), (0, 0, 0), (4, 40, 0), (0, 0, 0), (0, 0, 0), (0, 0, 0), (0, 0, 0), (0, 0, 0), (0, 0, 0), (0, 0, 0), (2, 4, 0), (1, 0, 0), (1, 0, 0)],
  [(3, 41, 0), (3, 42, 0), (3, 43, 0), (3, 5, 0)],
  [(4, 44, 0), (0, 0, 0)],
  [(3, 5, 0), (3, 2, 0), (3, 9, 0), (3, 3, 0), (3, 7, 0), (3, 1, 0), (3, 0, 0), (3, 6, 0)],
  [(0, 0, 0), (0, 0, 0), (0, 0, 0), (3, 50, 0), (3, 51, 0), (3, 52, 0), (3, 53, 0), (3, 54, 0), (3, 55, 0), (3, 56, 0), (3, 57, 0), (3, 58, 0), (0, 0, 0), (3, 59, 0), (3, 60, 0), (3, 61, 0), (3, 62, 0), (3, 63, 0), (3, 64, 0), (3, 65, 0), (3, 66, 0), (3, 67, 0), (3, 68, 0), (3, 69, 0), (0, 0, 0), (0, 0, 0), (3, 70, 0), (3, 71, 0), (3, 72, 0), (3, 73, 0), (3, 74, 0), (3, 75, 0), (3, 76, 0), (0, 0, 0), (0, 0, 0), (0, 0, 0), (0, 0, 0), (0, 0, 0), (3, 77, 0), (3, 78, 0), (3, 79, 0), (3, 80, 0), (3, 81, 0), (3, 82, 0), (3, 83, 0), (0, 0, 0), (0, 0, 0), (3, 84, 0), (3, 85, 0), (3, 86, 0), (3, 87, 0), (0, 0, 0), (3, 88, 0), (0, 0, 0), (3, 89, 0), (3, 90, 0), (3, 91, 0), (3, 92, 0)]]
def aTab : List (Nat × Nat × Nat) := [
  (0, 24, 0), (0, 40, 0), (0, 40, 0), (0, 40, 0), (0, 40, 0), (0, 60, 0), (0, 60, 0), (0, 60, 0), (1, 1024, 0), (0, 1024, 0),
  (0, 7, 0), (0, 64, 0), (5, 64, 8), (6, 200, 4), (0, 64, 0), (0, 6, 0), (0, 6, 0), (0, 6, 0), (1, 360, 0), (0, 120, 0),
  (0, 20, 0), (0, 64, 0), (0, 64, 0), (0, 8, 0), (0, 121, 0),
  (0, 0, 0), (0, 0, 0), (0, 0, 0), (0, 0, 0), (0, 0, 0),
  (0, 64, 0), (0, 64, 0), (0, 64, 0), (0, 64, 0), (0, 64, 0), (0, 64, 0), (0, 64, 0), (0, 64, 0), (2, 64, 0), (0, 200, 0), (0, 200, 0), (0, 200, 0), (0, 200, 0), (2, 200, 0), (1, 64, 0), (1, 64, 0), (0, 64, 0), (0, 64, 0), (0, 64, 0), (2, 64, 0), (0, 40, 0), (0, 40, 0), (0, 40, 0), (0, 40, 0), (2, 64, 0), (0, 10, 0), (3, 120, 0), (3, 390, 0), (0, 390, 0), (0, 3, 0), (4, 183, 0), (4, 183, 0), (0, 7, 0), (0, 130, 0), (0, 60, 0), (0, 60, 0), (0, 60, 0), (0, 1280, 0), (0, 24, 0), (0, 6, 0), (0, 6, 0), (1, 360, 0), (1, 60, 0)]
def oK (t k : Nat) : Nat × Nat × Nat := (oTab.getD t []).getD k (0, 0, 0)
def nF (t : Nat) : Nat := (oTab.getD t []).length
def aE (t : Nat) : Nat := (aTab.getD (t - 20) (0, 0, 0)).1
def aN (t : Nat) : Nat := (aTab.getD (t - 20) (0, 0, 0)).2.1
def aG (t : Nat) : Nat := (aTab.getD (t - 20) (0, 0, 0)).2.2
/-- the fields and rows that hold references, and the kinds to which they refer -/
def rTab : List (Nat × Nat) := [(402, 4), (813, 4), (3200, 8), (3300, 4)]
theorem nF_le (t : Nat) : nF t ≤ 58 := by
  rcases Nat.lt_or_ge t 13 with h | h
  · have : ∀ t, t < 13 → nF t ≤ 58 := by decide +kernel
    exact this t h
  · have hl : oTab.length = 13 := by decide +kernel
    have h1 : oTab[t]? = none := List.getElem?_eq_none (by rw [hl]; exact h)
    have : oTab.getD t [] = [] := by rw [List.getD_eq_getElem?_getD, h1]; rfl
    rw [nF, this]; exact Nat.zero_le _
def fvk (ad : Nat → Nat → Nat) (M : Mem) (t i k : Nat) (q : Nat × Nat × Nat) : Value := match q.1 with
  | 0 => .int (mgI M (100 * t + k) i 0)
  | 1 => .long (mgL M (100 * t + k) i 0)
  | 2 => rv (ad q.2.1) (mgR M (100 * t + k) i 0)
  | 3 => .ref (ad q.2.1 q.2.2)
  | _ => .ref (ad q.2.1 i)
def arc (cy : Nat → ClassId) (ad : Nat → Nat → Nat) (M : Mem) (t i : Nat) : Cell := match aE t with
  | 1 => vp_cell (cy 1) (aN t, .inr (.inl (fun j => mgL M (100 * t) i j)))
  | 5 => vp_cell (cy 5) (aN t, .inr (.inr (.inr (.inr (fun j => (mgR M (100 * t) i j).map (ad (aG t)))))))
  | 6 => vp_cell (cy 6) (aN t, .inr (.inr (.inr (.inr (fun j => (mgR M (100 * t) i j).map (ad (aG t)))))))
  | e => vp_cell (cy e) (aN t, .inl (fun j => mgI M (100 * t) i j))
abbrev tysA (cy : Nat → ClassId) : List (ClassId × FieldType) := [(cy 0, .int), (cy 1, .long), (cy 2, .boolean), (cy 3, .byte), (cy 4, .short), (cy 5, .object "TakenBack$Stone"), (cy 6, .object "TakenBack$Line")]
/-- a heap holds a memory: cn says how many cells of each kind there are, ad where they lie, A what may be written -/
def Wd (D : va_G) (cy : Nat → ClassId) (A : Nat → Prop) (cn : Nat → Nat) (ad : Nat → Nat → Nat) (M : Mem) (H : Heap) : Prop :=
  (∀ t i, t < 13 → i < cn t → t_OB (ad t i) (D.1 t) (nF t) (D.2 t) H (fun k => fvk ad M t i k (oK t k))) ∧
  (∀ t i, 20 ≤ t → i < cn t → H[ad t i]? = some (arc cy ad M t i)) ∧
  (∀ t i t' i', i < cn t → i' < cn t' → ad t i = ad t' i' → t = t' ∧ i = i') ∧
  (∀ t i, i < cn t → A (ad t i)) ∧
  (∀ q ∈ rTab, ∀ i j o, mgR M q.1 i j = some o → o < cn q.2)
theorem Wd.ref {D : va_G} {cy : Nat → ClassId} {A : Nat → Prop} {cn : Nat → Nat} {ad : Nat → Nat → Nat} {M : Mem} {H : Heap} (h : Wd D cy A cn ad M H) (k : Nat) {f g : Nat} (hk : rTab[k]? = some (f, g)) {i j o : Nat} (e : mgR M f i j = some o) : o < cn g := h.2.2.2.2 (f, g) (List.mem_of_getElem? hk) i j o e
theorem Wd.setO {D : va_G} {cy : Nat → ClassId} {A : Nat → Prop} {cn : Nat → Nat} {ad : Nat → Nat → Nat} {M M' : Mem} {H H1 : Heap} (h : Wd D cy A cn ad M H) {t i : Nat} (ht : t < 13) (hi : i < cn t)
    (e : t_OB (ad t i) (D.1 t) (nF t) (D.2 t) H1 (fun k => fvk ad M' t i k (oK t k))) (oq : ∀ q : Nat, q ≠ ad t i → H1[q]? = H[q]?)
    (hO : ∀ t' i' k', k' < nF t' → ¬ (t' = t ∧ i' = i) → fvk ad M t' i' k' (oK t' k') = fvk ad M' t' i' k' (oK t' k'))
    (hAr : ∀ t' i', 20 ≤ t' → arc cy ad M' t' i' = arc cy ad M t' i')
    (hR : ∀ q ∈ rTab, ∀ i j o, mgR M' q.1 i j = some o → o < cn q.2) : Wd D cy A cn ad M' H1 := by
  refine ⟨fun t' i' ht' hi' => ?_, fun t' i' ht' hi' => ?_, h.2.2.1, h.2.2.2.1, hR⟩
  · by_cases hc : t' = t ∧ i' = i
    · obtain ⟨rfl, rfl⟩ := hc
      exact e
    · refine t_OB.to ((h.1 t' i' ht' hi').kept (oq _ (fun z => hc (h.2.2.1 t' i' t i hi' hi z)))) (fun k hk => hO t' i' k hk hc)
  · rw [hAr t' i' ht', ← h.2.1 t' i' ht' hi']
    refine oq _ (fun z => ?_)
    have := (h.2.2.1 t' i' t i hi' hi z).1
    omega
theorem Wd.setA {D : va_G} {cy : Nat → ClassId} {A : Nat → Prop} {cn : Nat → Nat} {ad : Nat → Nat → Nat} {M M' : Mem} {H H1 : Heap} (h : Wd D cy A cn ad M H) {t i : Nat} (ht : 20 ≤ t) (hi : i < cn t)
    (e : H1[ad t i]? = some (arc cy ad M' t i)) (oq : ∀ q : Nat, q ≠ ad t i → H1[q]? = H[q]?)
    (hO : ∀ t' i' k', t' < 13 → k' < nF t' → fvk ad M t' i' k' (oK t' k') = fvk ad M' t' i' k' (oK t' k'))
    (hAr : ∀ t' i', ¬ (t' = t ∧ i' = i) → arc cy ad M' t' i' = arc cy ad M t' i')
    (hR : ∀ q ∈ rTab, ∀ i j o, mgR M' q.1 i j = some o → o < cn q.2) : Wd D cy A cn ad M' H1 := by
  refine ⟨fun t' i' ht' hi' => ?_, fun t' i' ht' hi' => ?_, h.2.2.1, h.2.2.2.1, hR⟩
  · refine t_OB.to ((h.1 t' i' ht' hi').kept (oq _ (fun z => ?_))) (fun k hk => hO t' i' k ht' hk)
    have := (h.2.2.1 t' i' t i hi' hi z).1
    omega
  · by_cases hc : t' = t ∧ i' = i
    · obtain ⟨rfl, rfl⟩ := hc
      exact e
    · rw [hAr t' i' hc, ← h.2.1 t' i' ht' hi']
      exact oq _ (fun z => hc (h.2.2.1 t' i' t i hi' hi z))
theorem fvk_I (ad : Nat → Nat → Nat) (M : Mem) (f i j : Nat) (v : Int32) (t' i' k' : Nat) (q : Nat × Nat × Nat) (h : ¬ (100 * t' + k' = f ∧ i' = i ∧ 0 = j)) : fvk ad M t' i' k' q = fvk ad (msI M f i j v) t' i' k' q := by
  unfold fvk
  split <;> first | rfl | (rw [mgI_I, if_neg h])
theorem fvk_L (ad : Nat → Nat → Nat) (M : Mem) (f i j : Nat) (v : Int64) (t' i' k' : Nat) (q : Nat × Nat × Nat) (h : ¬ (100 * t' + k' = f ∧ i' = i ∧ 0 = j)) : fvk ad M t' i' k' q = fvk ad (msL M f i j v) t' i' k' q := by
  unfold fvk
  split <;> first | rfl | (rw [mgL_L, if_neg h])
theorem fvk_R (ad : Nat → Nat → Nat) (M : Mem) (f i j : Nat) (v : Option Nat) (t' i' k' : Nat) (q : Nat × Nat × Nat) (h : ¬ (100 * t' + k' = f ∧ i' = i ∧ 0 = j)) : fvk ad M t' i' k' q = fvk ad (msR M f i j v) t' i' k' q := by
  unfold fvk
  split <;> first | rfl | (rw [mgR_R, if_neg h])
theorem arc_I (cy : Nat → ClassId) (ad : Nat → Nat → Nat) (M : Mem) (f i j : Nat) (v : Int32) (t' i' : Nat) (h : ∀ j', ¬ (100 * t' = f ∧ i' = i ∧ j' = j)) : arc cy ad (msI M f i j v) t' i' = arc cy ad M t' i' := by
  have e : (fun j' => mgI (msI M f i j v) (100 * t') i' j') = (fun j' => mgI M (100 * t') i' j') := funext fun j' => by rw [mgI_I, if_neg (h j')]
  unfold arc
  split <;> first | rfl | rw [e]
theorem arc_L (cy : Nat → ClassId) (ad : Nat → Nat → Nat) (M : Mem) (f i j : Nat) (v : Int64) (t' i' : Nat) (h : ∀ j', ¬ (100 * t' = f ∧ i' = i ∧ j' = j)) : arc cy ad (msL M f i j v) t' i' = arc cy ad M t' i' := by
  have e : (fun j' => mgL (msL M f i j v) (100 * t') i' j') = (fun j' => mgL M (100 * t') i' j') := funext fun j' => by rw [mgL_L, if_neg (h j')]
  unfold arc
  split <;> first | rfl | rw [e]
theorem arc_R (cy : Nat → ClassId) (ad : Nat → Nat → Nat) (M : Mem) (f i j : Nat) (v : Option Nat) (t' i' : Nat) (h : ∀ j', ¬ (100 * t' = f ∧ i' = i ∧ j' = j)) : arc cy ad (msR M f i j v) t' i' = arc cy ad M t' i' := by
  have e : ∀ G : Nat → Nat, (fun j' => (mgR (msR M f i j v) (100 * t') i' j').map G) = (fun j' => (mgR M (100 * t') i' j').map G) := fun G => funext fun j' => by rw [mgR_R, if_neg (h j')]
  unfold arc
  split <;> first | rfl | rw [e]
