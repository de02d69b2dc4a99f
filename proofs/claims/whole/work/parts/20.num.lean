/-! ===== numbers, rows, loops: plain facts ===== -/
theorem i_lit (n : Nat) : (OfNat.ofNat n : Int32) = nI (OfNat.ofNat n) := Int32.toBitVec_inj.1 rfl
theorem gI_at {β : Type} {f : Nat → Int32} {n i : Nat} {k : Int32 → Option β} (h : i < n) (hn : n < 2 ^ 31) : gI f n (nI i) k = k (f i) := by
  unfold gI
  rw [if_neg (nI_in h hn), nI_clamp (by omega)]
theorem gJ_at {β : Type} {f : Nat → Int64} {n i : Nat} {k : Int64 → Option β} (h : i < n) (hn : n < 2 ^ 31) : gJ f n (nI i) k = k (f i) := by
  unfold gJ
  rw [if_neg (nI_in h hn), nI_clamp (by omega)]
theorem pI_at {β : Type} {f : Nat → Int32} {n i : Nat} {v : Int32} {k : (Nat → Int32) → Option β} (h : i < n) (hn : n < 2 ^ 31) : pI f n (nI i) v k = k (upd f i v) := by
  unfold pI
  rw [if_neg (nI_in h hn), nI_clamp (by omega)]
theorem pJ_at {β : Type} {f : Nat → Int64} {n i : Nat} {v : Int64} {k : (Nat → Int64) → Option β} (h : i < n) (hn : n < 2 ^ 31) : pJ f n (nI i) v k = k (vp_updL f i v) := by
  unfold pJ
  rw [if_neg (nI_in h hn), nI_clamp (by omega)]
theorem bd_some {α β : Type} (x : α) (k : α → Option β) : bd (some x) k = k x := rfl
theorem bd_none {α β : Type} (k : α → Option β) : bd (none : Option α) k = none := rfl
theorem nmE {α β : Type} (e : α) (k : α → Option β) : nm e k = k e := rfl
theorem nI_dec {p : Nat} (h : 0 < p) : nI p + -nI 1 = nI (p - 1) := sb_m1 h
theorem nI_mul (a b : Nat) : nI a * nI b = nI (a * b) := pk_mul a b
theorem bz_0 {β : Type} (k : Option β) : bz (nI 0) k = k := if_pos (Or.inl rfl)
theorem bz_1 {β : Type} (k : Option β) : bz (nI 1) k = k := if_pos (Or.inr rfl)
theorem upd_s {f : Nat → Int32} {k : Nat} {x : Int32} : upd f k x k = x := if_pos rfl
theorem upd_n {f : Nat → Int32} {k j : Nat} {x : Int32} (h : j ≠ k) : upd f k x j = f j := if_neg h
theorem fu_s : fu = 39999 + 1 := rfl
theorem fu_ex : ∃ f, fu = f + 1 := ⟨39999, rfl⟩
theorem i_or (a b : Nat) : nI a ||| nI b = nI (a ||| b) := by
  apply Int32.toBitVec_inj.1
  show BitVec.ofNat 32 a ||| BitVec.ofNat 32 b = BitVec.ofNat 32 (a ||| b)
  exact BitVec.ofNat_or.symm
theorem i_dif {a b : Nat} (h : b ≤ a) : nI a - nI b = nI (a - b) := pk_sub h
/-- a sum of n numbers from a on -/
def sm (f : Nat → Nat) : Nat → Nat → Nat
  | _, 0 => 0
  | a, n + 1 => f a + sm f (a + 1) n
theorem sm_congr {f g : Nat → Nat} : ∀ (n a : Nat), (∀ k, a ≤ k → k < a + n → f k = g k) → sm f a n = sm g a n := by
  intro n
  induction n with
  | zero => intro a _; rfl
  | succ n ih => intro a h; simp only [sm]; rw [h a (Nat.le_refl _) (by omega), ih (a + 1) (fun k h1 h2 => h k (by omega) (by omega))]
theorem sm_le {f : Nat → Nat} {b : Nat} : ∀ (n a : Nat), (∀ k, a ≤ k → k < a + n → f k ≤ b) → sm f a n ≤ n * b := by
  intro n
  induction n with
  | zero => intro a _; simp [sm]
  | succ n ih =>
    intro a h
    simp only [sm]
    have h1 := h a (Nat.le_refl _) (by omega)
    have h2 := ih (a + 1) (fun k h1 h2 => h k (by omega) (by omega))
    rw [Nat.succ_mul]
    omega
/-- digits in a row of nine -/
def Dg (row : Nat → Int32) (w : Nat → Nat) : Prop := ∀ k, 1 ≤ k → k ≤ 9 → row k = nI (w k) ∧ 1 ≤ w k ∧ w k ≤ 9
def cN (w : Nat → Nat) (i : Nat) : Nat → Nat := fun k => if w k < w i then 1 else 0
/-- the code at i -/
def cnt (w : Nat → Nat) (i : Nat) : Nat := sm (cN w i) (i + 1) (9 - i)
theorem digit_at {row : Nat → Int32} {w : Nat → Nat} (h : Dg row w) {k : Nat} (h1 : 1 ≤ k) (h9 : k ≤ 9) : fX1_digit row (nI k) = some (nI (w k)) := by
  simp only [fX1_digit, i_lit]
  simp (disch := omega) only [nI_ltI, gI_at]
  rw [if_neg (by omega), if_neg (by omega), (h k h1 h9).1]
theorem codeAt_L {row : Nat → Int32} {w : Nat → Nat} (h : Dg row w) {i : Nat} (hi : 1 ≤ i) (hi9 : i ≤ 9) : ∀ (m n c j : Nat), j + m = 10 → 1 ≤ j → m < n → fX1_codeAt_L6 row (nI i) n (nI c) (nI j) = some (nI (c + sm (cN w i) j m)) := by
  intro m
  induction m with
  | zero =>
    intro n c j hj h1 hn
    obtain ⟨n, rfl⟩ : ∃ k, n = k + 1 := ⟨n - 1, by omega⟩
    simp only [fX1_codeAt_L6, i_lit]
    simp (disch := omega) only [nI_ltI]
    rw [if_pos (by omega)]
    simp [sm]
  | succ m ih =>
    intro n c j hj h1 hn
    obtain ⟨n, rfl⟩ : ∃ k, n = k + 1 := ⟨n - 1, by omega⟩
    have hw := h j h1 (by omega)
    have hv := h i hi hi9
    simp only [fX1_codeAt_L6, i_lit, digit_at h h1 (by omega : j ≤ 9), digit_at h hi hi9, bd_some, nmE]
    simp (disch := omega) only [nI_ltI, nI_leI, nI_add]
    rw [if_neg (by omega)]
    simp only [sm]
    by_cases hc : w i ≤ w j
    · rw [if_pos hc, ih n c (j + 1) (by omega) (by omega) (by omega)]
      simp only [cN, if_neg (Nat.not_lt.mpr hc), Nat.zero_add]
    · rw [if_neg hc, ih n (c + 1) (j + 1) (by omega) (by omega) (by omega)]
      simp only [cN, if_pos (Nat.not_le.mp hc), Nat.add_assoc]
theorem codeAt_1 {row : Nat → Int32} {w : Nat → Nat} (h : Dg row w) {i : Nat} (hi : 1 ≤ i) (hi9 : i ≤ 9) : fX1_codeAt row (nI i) = some (nI (cnt w i)) := by
  simp only [fX1_codeAt, i_lit, nmE, nI_add]
  rw [codeAt_L h hi hi9 (9 - i) fu 0 (i + 1) (by omega) (by omega) (by rw [fu_s]; omega)]
  simp [cnt]
theorem codeAt6_L {row : Nat → Int32} {w : Nat → Nat} (h : Dg row w) {i : Nat} (hi : 1 ≤ i) (hi9 : i ≤ 9) : ∀ (m n c j : Nat), j + m = 10 → 1 ≤ j → m < n → fX6_codeAt_L6 row (nI i) n (nI c) (nI j) = some (nI (c + sm (cN w i) j m)) := by
  intro m
  induction m with
  | zero =>
    intro n c j hj h1 hn
    obtain ⟨n, rfl⟩ : ∃ k, n = k + 1 := ⟨n - 1, by omega⟩
    simp only [fX6_codeAt_L6, i_lit]
    simp (disch := omega) only [nI_ltI]
    rw [if_pos (by omega)]
    simp [sm]
  | succ m ih =>
    intro n c j hj h1 hn
    obtain ⟨n, rfl⟩ : ∃ k, n = k + 1 := ⟨n - 1, by omega⟩
    have hw := h j h1 (by omega)
    have hv := h i hi hi9
    simp only [fX6_codeAt_L6, i_lit, nmE]
    simp (disch := omega) only [nI_ltI, gI_at, hw.1, hv.1, nI_leI, nI_add]
    rw [if_neg (by omega)]
    simp only [sm]
    by_cases hc : w i ≤ w j
    · rw [if_pos hc, ih n (c + 0) (j + 1) (by omega) (by omega) (by omega)]
      simp only [cN, if_neg (Nat.not_lt.mpr hc), Nat.zero_add, Nat.add_zero]
    · rw [if_neg hc, ih n (c + 1) (j + 1) (by omega) (by omega) (by omega)]
      simp only [cN, if_pos (Nat.not_le.mp hc), Nat.add_assoc]
theorem codeAt_6 {row : Nat → Int32} {w : Nat → Nat} (h : Dg row w) {i : Nat} (hi : 1 ≤ i) (hi9 : i ≤ 9) : fX6_codeAt row (nI i) = some (nI (cnt w i)) := by
  simp only [fX6_codeAt, i_lit, nmE, nI_add]
  rw [codeAt6_L h hi hi9 (9 - i) fu 0 (i + 1) (by omega) (by omega) (by rw [fu_s]; omega)]
  simp [cnt]
