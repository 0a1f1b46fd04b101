/-! lists of lines -/
theorem prv_lt {lo : Nat → Int32} {s : Nat} : ∀ {n l : Nat}, prv lo s n = some l → l < n ∧ lo l = nI s
  | 0, l, h => by cases h
  | n + 1, l, h => by
    unfold prv at h
    by_cases e : lo n = nI s
    · rw [if_pos e] at h
      cases h
      exact ⟨Nat.lt_succ_self n, e⟩
    · rw [if_neg e] at h
      have := prv_lt h
      exact ⟨by omega, this.2⟩
/-- what a walk of a list of lines makes of a value, the latest line first -/
def dns {σ : Type} (lo : Nat → Int32) (s : Nat) (g : Nat → σ → σ) : Nat → σ → σ
  | 0, x => x
  | n + 1, x => if lo n = nI s then dns lo s g n (g n x) else dns lo s g n x
theorem lpL {σ ρ : Type} (F : Nat → Option Nat → σ → Option ρ) (lo : Nat → Int32) (s L : Nat) (I : σ → Prop) (g : Nat → σ → σ) (e : σ → Option ρ) (hx : ∀ n x, I x → F (n + 1) none x = e x)
    (hs : ∀ n l x, l < L → lo l = nI s → I x → F (n + 1) (some l) x = F n (prv lo s l) (g l x) ∧ I (g l x)) : ∀ (N n : Nat) (x : σ), N ≤ L → N < n → I x → F n (prv lo s N) x = e (dns lo s g N x) := by
  intro N
  induction N with
  | zero =>
    intro n x _ hn hI
    obtain ⟨m, rfl⟩ : ∃ m, n = m + 1 := ⟨n - 1, by omega⟩
    exact hx m x hI
  | succ N ih =>
    intro n x hN hn hI
    unfold prv dns
    by_cases h : lo N = nI s
    · rw [if_pos h, if_pos h]
      obtain ⟨m, rfl⟩ : ∃ m, n = m + 1 := ⟨n - 1, by omega⟩
      obtain ⟨h1, h2⟩ := hs m N x hN h hI
      rw [h1]
      exact ih m (g N x) (by omega) (by omega) h2
    · rw [if_neg h, if_neg h]
      exact ih n x (by omega) (by omega) hI
theorem orL_y {lo ln dr : Nat → Int32} {B : Nat → Int64} {s n : Nat} (h : lo n = nI s ∧ dr n = 0) : orL lo ln dr B s (n + 1) = orL lo ln dr B s n ||| (B (ln n).toNatClampNeg ||| fX11_bit (ln n)) := if_pos h
theorem orL_n {lo ln dr : Nat → Int32} {B : Nat → Int64} {s n : Nat} (h : ¬ (lo n = nI s ∧ dr n = 0)) : orL lo ln dr B s (n + 1) = orL lo ln dr B s n := if_neg h
theorem dns_y {σ : Type} {lo : Nat → Int32} {s n : Nat} {g : Nat → σ → σ} {x : σ} (h : lo n = nI s) : dns lo s g (n + 1) x = dns lo s g n (g n x) := if_pos h
theorem dns_n {σ : Type} {lo : Nat → Int32} {s n : Nat} {g : Nat → σ → σ} {x : σ} (h : ¬ lo n = nI s) : dns lo s g (n + 1) x = dns lo s g n x := if_neg h
theorem or_c (x y : Int64) : x ||| y = y ||| x := hB_ext fun k _ => by rw [hB_or, hB_or, Bool.or_comm]
theorem or_a (x y z : Int64) : x ||| y ||| z = x ||| (y ||| z) := hB_ext fun k _ => by simp only [hB_or, Bool.or_assoc]
theorem or_0 (x : Int64) : (0 : Int64) ||| x = x := hB_ext fun k _ => by rw [hB_or, hB_0, Bool.false_or]
theorem or_00 (x : Int64) : x ||| (0 : Int64) = x := by rw [or_c, or_0]
/-- a walk that gathers bits is the sum of lines upwards -/
theorem dns_or (lo ln dr : Nat → Int32) (B : Nat → Int64) (s : Nat) : ∀ (N : Nat) (x : Int64), dns lo s (fun l x => if dr l = 0 then x ||| (fX11_bit (ln l) ||| B (ln l).toNatClampNeg) else x) N x = x ||| orL lo ln dr B s N
  | 0, x => by
    show x = x ||| 0
    rw [or_00]
  | N + 1, x => by
    by_cases h : lo N = nI s
    · rw [dns_y h, dns_or lo ln dr B s N]
      by_cases h2 : dr N = 0
      · rw [if_pos h2, orL_y ⟨h, h2⟩, or_a, or_c (fX11_bit (ln N)), or_c (orL lo ln dr B s N)]
      · rw [if_neg h2, orL_n (fun z => h2 z.2)]
    · rw [dns_n h, orL_n (fun z => h z.1), dns_or lo ln dr B s N]
theorem orL_cong {lo ln dr : Nat → Int32} {B B' : Nat → Int64} {s : Nat} : ∀ {N : Nat}, (∀ l, l < N → lo l = nI s → B (ln l).toNatClampNeg = B' (ln l).toNatClampNeg) → orL lo ln dr B s N = orL lo ln dr B' s N
  | 0, _ => rfl
  | N + 1, h => by
    have ih := orL_cong (ln := ln) (dr := dr) (N := N) (fun l hl => h l (Nat.lt_succ_of_lt hl))
    by_cases e : lo N = nI s ∧ dr N = 0
    · rw [orL_y e, orL_y e, ih, h N (Nat.lt_succ_self N) e.1]
    · rw [orL_n e, orL_n e, ih]
/-- the bits of such a sum -/
theorem hB_orL {lo ln dr : Nat → Int32} {B : Nat → Int64} {s : Nat} : ∀ {N : Nat}, (∀ l, l < N → lo l = nI s → ∃ b, b < 64 ∧ ln l = nI b) → ∀ k, (hB (orL lo ln dr B s N) k = true ↔ ∃ l, l < N ∧ lo l = nI s ∧ dr l = 0 ∧ ∃ b, b < 64 ∧ ln l = nI b ∧ (k = b ∨ hB (B b) k = true))
  | 0, _, k => by
    show hB 0 k = true ↔ _
    rw [hB_0]
    constructor
    · intro h; cases h
    · rintro ⟨l, h, -⟩; exact absurd h (Nat.not_lt_zero l)
  | N + 1, h, k => by
    have ih := hB_orL (N := N) (fun l hl => h l (Nat.lt_succ_of_lt hl)) (B := B) (dr := dr) k
    by_cases e : lo N = nI s ∧ dr N = 0
    · rw [orL_y e, hB_or, hB_or]
      obtain ⟨b, hb, eb⟩ := h N (Nat.lt_succ_self N) e.1
      rw [eb, nI_clamp (by omega), hB_bit hb]
      constructor
      · intro hh
        rcases Bool.or_eq_true _ _ ▸ hh with h1 | h1
        · obtain ⟨l, h2, h3⟩ := ih.mp h1
          exact ⟨l, by omega, h3⟩
        · rcases Bool.or_eq_true _ _ ▸ h1 with h2 | h2
          · exact ⟨N, Nat.lt_succ_self N, e.1, e.2, b, hb, eb, Or.inr h2⟩
          · exact ⟨N, Nat.lt_succ_self N, e.1, e.2, b, hb, eb, Or.inl (of_decide_eq_true h2)⟩
      · rintro ⟨l, hl, h1, h2, b', hb', eb', h3⟩
        by_cases el : l = N
        · subst el
          have : b' = b := (nI_eq (by omega) (by omega)).mp (eb'.symm.trans eb)
          subst this
          rcases h3 with h3 | h3
          · simp [h3]
          · simp [h3]
        · rw [ih.mpr ⟨l, by omega, h1, h2, b', hb', eb', h3⟩]
          rfl
    · rw [orL_n e, ih]
      constructor
      · rintro ⟨l, hl, h1⟩; exact ⟨l, by omega, h1⟩
      · rintro ⟨l, hl, h1, h2, h3⟩
        by_cases el : l = N
        · subst el; exact absurd ⟨h1, h2⟩ e
        · exact ⟨l, by omega, h1, h2, h3⟩
/-! who stands on whom, in the simulation -/
def bl (C : Mem) (s : Nat) : Int64 := mgL C 815 s 0
theorem bl_h {C M : Mem} {nS nL : Nat} (h : Sim C M nS nL) {s : Nat} (hs : s < nS) (k : Nat) : hB (bl C s) k = true ↔ ∃ l, l < nL ∧ mgI M 5900 0 l = nI s ∧ mgI M 6300 0 l = 0 ∧ ∃ b, b < 64 ∧ mgI M 6000 0 l = nI b ∧ (k = b ∨ hB (bl C b) k = true) := by
  have hb : nS ≤ 64 ∧ nL ≤ 200 := sm_b1 h
  unfold bl
  rw [sm_h5 h s hs]
  exact hB_orL (fun l hl _ => by
    obtain ⟨a, b, h1, h2, -, h4⟩ := sm_vL h l hl
    exact ⟨b, by omega, h4⟩) k
/-- of a line: whose and on which, as numbers -/
theorem ln_n {C M : Mem} {nS nL : Nat} (h : Sim C M nS nL) {l s : Nat} (hl : l < nL) (hs : s < nS) (e : mgI M 5900 0 l = nI s) : ∃ b, b < s ∧ mgI M 6000 0 l = nI b := by
  have hb : nS ≤ 64 ∧ nL ≤ 200 := sm_b1 h
  obtain ⟨a, b, h1, h2, h3, h4⟩ := sm_vL h l hl
  have : a = s := (nI_eq (by omega) (by omega)).mp (h3.symm.trans e)
  subst this
  exact ⟨b, h1, h4⟩
/-- one stands on earlier ones only -/
theorem bl_lt {C M : Mem} {nS nL : Nat} (h : Sim C M nS nL) : ∀ (s : Nat), s < nS → ∀ k, hB (bl C s) k = true → k < s := by
  intro s
  induction s using Nat.strongRecOn with
  | _ s ih =>
    intro hs k hk
    obtain ⟨l, hl, h1, -, b, hb, h3, h4⟩ := (bl_h h hs k).mp hk
    obtain ⟨b', hb', h5⟩ := ln_n h hl hs h1
    have : b = b' := (nI_eq (by omega) (by have : nS ≤ 64 ∧ nL ≤ 200 := sm_b1 h; omega)).mp (h3.symm.trans h5)
    subst this
    rcases h4 with h4 | h4
    · omega
    · have := ih b hb' (by omega) k h4
      omega
/-! the reference works out who stands on whom -/
theorem fs_33 {C M : Mem} {nS nL : Nat} (h : Sim C M nS nL) {ρ : Type} (P : Unit × Mem → Prop) (k1 : Int32 → Mem → Option (Unit × Mem)) {s : Nat} (hs : s < nS) (M1 : Mem) (hE : EqOff [6400, 6500, 6600] M M1) (h4 : ∀ t, t < s → mgL M1 6400 0 t = bl C t) (h0 : mgL M1 6400 0 s = 0)
    (kk : ∀ M2, EqOff [6400] M1 M2 → (∀ t, mgL M2 6400 0 t = if t = s then bl C s else mgL M1 6400 0 t) → Rt (k1 (nI (s + 1)) M2) P) : Rt (fX12_findStanding_l33 (nI s) k1 FU (0 : Int32) M1) P := by
  have hb : nS ≤ 64 ∧ nL ≤ 200 := sm_b1 h
  have hm := (sm_c2 h).2
  refine lpR (fun n i (M2 : Mem) => fX12_findStanding_l33 (nI s) k1 n (nI i) M2) P nL (fun i M2 => EqOff [6400] M1 M2 ∧ ∀ t, mgL M2 6400 0 t = if t = s then orL (mgI M 5900 0) (mgI M 6000 0) (mgI M 6300 0) (bl C) s i else mgL M1 6400 0 t) (fun n M2 hI => ?_) (fun n i M2 hi hI k => ?_) FU 0 M1 (Nat.zero_le _) ⟨EqOff.refl, fun t => ?_⟩ (FU_lt (by omega))
  · have g := hE.on (K := [1212]) rfl
    have g2 := hI.1.on (K := [1212]) rfl
    simp only [fX12_findStanding_l33, fX12_findStanding_b33, nm_u]
    rw [(g2 1212 (by decide)).1, (g 1212 (by decide)).1, hm, if_pos (nI_le (Nat.le_refl _) (by omega)), nI_1]
    refine kk M2 hI.1 (fun t => ?_)
    rw [hI.2 t, show bl C s = _ from sm_h5 h s hs]
    rfl
  · have g := hE.on (K := [1212, 5900, 6000, 6300]) rfl
    have g2 := hI.1.on (K := [1212, 5900, 6000, 6300]) rfl
    simp only [fX12_findStanding_l33, fX12_findStanding_b33, nm_u]
    rw [(g2 1212 (by decide)).1, (g 1212 (by decide)).1, hm, if_neg (nI_ge hi (by omega))]
    simp only [ix_n (show i < 200 by omega) (show 200 < 2 ^ 31 by omega), nI_clamp (show i < 2 ^ 31 by omega), (g2 5900 (by decide)).1, (g 5900 (by decide)).1, (g2 6300 (by decide)).1, (g 6300 (by decide)).1, (g2 6000 (by decide)).1, (g 6000 (by decide)).1, nI_1]
    by_cases e1 : mgI M 5900 0 i = nI s
    · rw [if_pos e1]
      by_cases e2 : mgI M 6300 0 i = 0
      · rw [if_pos e2]
        obtain ⟨b, hbs, e3⟩ := ln_n h hi hs e1
        rw [e3]
        simp only [ix_n (show s < 64 by omega) (show 64 < 2 ^ 31 by omega), ix_n (show b < 64 by omega) (show 64 < 2 ^ 31 by omega), nI_clamp (show s < 2 ^ 31 by omega), nI_clamp (show b < 2 ^ 31 by omega)]
        refine k _ ⟨hI.1.L rfl, fun t => ?_⟩
        simp only [uI_I, uL_L, uR_R, uI_L, uI_R, uL_I, uL_R, uR_I, uR_L, Nat.reduceEqDiff, false_and, and_false, true_and, and_true, ↓reduceIte]
        by_cases et : t = s
        · rw [if_pos et, if_pos et]
          rw [hI.2 s, if_pos rfl, hI.2 b, if_neg (by omega), h4 b hbs]
          rw [orL_y ⟨e1, e2⟩, e3, nI_clamp (by omega), sft_q]
        · rw [if_neg et, if_neg et]
          rw [hI.2 t, if_neg et]
      · rw [if_neg e2]
        refine k _ ⟨hI.1, fun t => ?_⟩
        rw [hI.2 t]
        rw [orL_n (fun z => e2 z.2)]
    · rw [if_neg e1]
      refine k _ ⟨hI.1, fun t => ?_⟩
      rw [hI.2 t]
      rw [orL_n (fun z => e1 z.1)]
  · by_cases et : t = s
    · rw [if_pos et, et, h0]; rfl
    · rw [if_neg et]
theorem fs_2 {C M : Mem} {nS nL : Nat} (h : Sim C M nS nL) (P : Unit × Mem → Prop)
    (kk : ∀ M2, EqOff [6400, 6500, 6600] M M2 → (∀ t, t < nS → mgL M2 6400 0 t = bl C t) → (∀ t, t < nS → mgL M2 6500 0 t = 0) → (∀ t, t < nS → mgI M2 6600 0 t = nI 0) → Rt (fX12_findStanding_l108 FU (nI nS - (1 : Int32)) M2) P) : Rt (fX12_findStanding M) P := by
  have hb : nS ≤ 64 ∧ nL ≤ 200 := sm_b1 h
  have hm := (sm_c2 h).1
  unfold fX12_findStanding
  refine lpR (fun n i (M2 : Mem) => fX12_findStanding_l2 n (nI i) M2) P nS (fun i M2 => EqOff [6400, 6500, 6600] M M2 ∧ (∀ t, t < i → mgL M2 6400 0 t = bl C t) ∧ (∀ t, t < i → mgL M2 6500 0 t = 0) ∧ (∀ t, t < i → mgI M2 6600 0 t = nI 0)) (fun n M2 hI => ?_) (fun n i M2 hi hI k => ?_) FU 0 M (Nat.zero_le _) ⟨EqOff.refl, fun t ht => absurd ht (Nat.not_lt_zero t), fun t ht => absurd ht (Nat.not_lt_zero t), fun t ht => absurd ht (Nat.not_lt_zero t)⟩ (FU_lt (by omega))
  · have g := hI.1.on (K := [1202]) rfl
    simp only [fX12_findStanding_l2, fX12_findStanding_b2, nm_u]
    rw [(g 1202 (by decide)).1, hm, if_pos (nI_le (Nat.le_refl _) (by omega))]
    exact kk M2 hI.1 hI.2.1 hI.2.2.1 hI.2.2.2
  · have g := hI.1.on (K := [1202]) rfl
    simp only [fX12_findStanding_l2, fX12_findStanding_b2, nm_u]
    rw [(g 1202 (by decide)).1, hm, if_neg (nI_ge hi (by omega))]
    simp only [ix_n (show i < 64 by omega) (show 64 < 2 ^ 31 by omega), nI_clamp (show i < 2 ^ 31 by omega)]
    refine fs_33 (ρ := Unit) h P _ hi _ (((hI.1.L rfl).L rfl).I rfl) (fun t ht => ?_) ?_ (fun M3 h3 h4 => ?_)
    · simp only [uI_I, uL_L, uR_R, uI_L, uI_R, uL_I, uL_R, uR_I, uR_L, Nat.reduceEqDiff, false_and, and_false, true_and, and_true, ↓reduceIte, if_neg (show ¬ t = i by omega)]
      exact hI.2.1 t ht
    · simp only [uI_I, uL_L, uR_R, uI_L, uI_R, uL_I, uL_R, uR_I, uR_L, Nat.reduceEqDiff, false_and, and_false, true_and, and_true, ↓reduceIte]
    · have g3 := h3.on (K := [6500, 6600]) rfl
      refine k M3 ⟨EqOff.trans (((hI.1.L rfl).L rfl).I rfl) (h3.wide rfl), fun t ht => ?_, fun t ht => ?_, fun t ht => ?_⟩
      · rw [h4 t]
        by_cases et : t = i
        · rw [if_pos et, et]
        · rw [if_neg et]
          simp only [uI_I, uL_L, uR_R, uI_L, uI_R, uL_I, uL_R, uR_I, uR_L, Nat.reduceEqDiff, false_and, and_false, true_and, and_true, ↓reduceIte, if_neg et]
          exact hI.2.1 t (by omega)
      · rw [(g3 6500 (by decide)).2.1]
        simp only [uI_I, uL_L, uR_R, uI_L, uI_R, uL_I, uL_R, uR_I, uR_L, Nat.reduceEqDiff, false_and, and_false, true_and, and_true, ↓reduceIte]
        by_cases et : t = i
        · rw [if_pos et]
        · rw [if_neg et]
          exact hI.2.2.1 t (by omega)
      · rw [(g3 6600 (by decide)).1]
        simp only [uI_I, uL_L, uR_R, uI_L, uI_R, uL_I, uL_R, uR_I, uR_L, Nat.reduceEqDiff, false_and, and_false, true_and, and_true, ↓reduceIte]
        by_cases et : t = i
        · rw [if_pos et]; rfl
        · rw [if_neg et]
          exact hI.2.2.2 t (by omega)
