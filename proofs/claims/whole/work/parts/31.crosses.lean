/-! ===== crosses ===== -/
theorem pv_acc (w : Nat → Nat) : ∀ (m acc j : Nat), pv w m acc j = acc * 10 ^ m + pv w m 0 j := by
  intro m
  induction m with
  | zero => intro acc j; simp [pv]
  | succ m ih =>
    intro acc j
    simp only [pv]
    rw [ih (acc * 10 + w j) (j + 1), ih (0 * 10 + w j) (j + 1), Nat.pow_succ, Nat.add_mul, Nat.zero_mul, Nat.zero_add, Nat.mul_comm (10 ^ m) 10, Nat.mul_assoc, Nat.add_assoc]
theorem pv_s (w : Nat → Nat) (m j : Nat) : pv w (m + 1) 0 j = w j * 10 ^ m + pv w m 0 (j + 1) := by
  simp only [pv]
  rw [pv_acc w m (0 * 10 + w j) (j + 1), Nat.zero_mul, Nat.zero_add]
theorem pv_lt {w : Nat → Nat} : ∀ (m j : Nat), (∀ i, j ≤ i → i < j + m → w i ≤ 9) → pv w m 0 j < 10 ^ m := by
  intro m
  induction m with
  | zero => intro j _; simp [pv]
  | succ m ih =>
    intro j h
    rw [pv_s, Nat.pow_succ]
    have h1 := ih (j + 1) (fun i a b => h i (by omega) (by omega))
    have h2 := h j (Nat.le_refl _) (by omega)
    have h3 : w j * 10 ^ m ≤ 9 * 10 ^ m := Nat.mul_le_mul_right _ h2
    omega
theorem pv_inj {p q : Nat → Nat} : ∀ (m j : Nat), (∀ i, j ≤ i → i < j + m → p i ≤ 9 ∧ q i ≤ 9) → pv p m 0 j = pv q m 0 j → ∀ i, j ≤ i → i < j + m → p i = q i := by
  intro m
  induction m with
  | zero => intro j _ _ i h1 h2; omega
  | succ m ih =>
    intro j h e i h1 h2
    rw [pv_s, pv_s] at e
    have a := pv_lt (w := p) m (j + 1) (fun i a b => (h i (by omega) (by omega)).1)
    have b := pv_lt (w := q) m (j + 1) (fun i a b => (h i (by omega) (by omega)).2)
    have hpos : 0 < 10 ^ m := Nat.pow_pos (by decide)
    have e1 : p j = q j := by
      have x1 : (p j * 10 ^ m + pv p m 0 (j + 1)) / 10 ^ m = p j := by
        rw [Nat.mul_comm, Nat.mul_add_div hpos, Nat.div_eq_of_lt a, Nat.add_zero]
      have x2 : (q j * 10 ^ m + pv q m 0 (j + 1)) / 10 ^ m = q j := by
        rw [Nat.mul_comm, Nat.mul_add_div hpos, Nat.div_eq_of_lt b, Nat.add_zero]
      rw [← x1, ← x2, e]
    by_cases hi : i = j
    · rw [hi]; exact e1
    · rw [e1] at e
      exact ih (j + 1) (fun i a b => h i (by omega) (by omega)) (by omega) i (by omega) (by omega)
theorem pv_ge {w : Nat → Nat} {m j : Nat} (h : 1 ≤ w j) : 10 ^ m ≤ pv w (m + 1) 0 j := by
  rw [pv_s]
  have : 1 * 10 ^ m ≤ w j * 10 ^ m := Nat.mul_le_mul_right _ h
  omega
/-- digits of 1 to 9 at places 1 to 9 -/
def Rg (w : Nat → Nat) : Prop := ∀ k, 1 ≤ k → k ≤ 9 → 1 ≤ w k ∧ w k ≤ 9
theorem Dg.rg {row : Nat → Int32} {w : Nat → Nat} (h : Dg row w) : Rg w := fun k h1 h9 => (h k h1 h9).2
theorem plN_lt {w : Nat → Nat} (h : Rg w) : plN w < 10 ^ 9 := by
  have hp := pcn_in w 9 (by decide)
  have := pv_lt (w := w) (pcn w 9) 1 (fun i a b => (h i a (by omega)).2)
  exact Nat.lt_of_lt_of_le this (Nat.pow_le_pow_right (by decide) hp.2)
theorem plN_inj {p q : Nat → Nat} (hp : Rg p) (hq : Rg q) (e : plN p = plN q) : ∀ j, 1 ≤ j → j ≤ 9 → p j = q j := by
  have a := pcn_in p 9 (by decide)
  have b := pcn_in q 9 (by decide)
  unfold plN at e
  have hc : pcn p 9 = pcn q 9 := by
    have u1 := pv_lt (w := p) (pcn p 9) 1 (fun i a b => (hp i a (by omega)).2)
    have u2 := pv_lt (w := q) (pcn q 9) 1 (fun i a b => (hq i a (by omega)).2)
    have l1 := pv_ge (w := p) (m := pcn p 9 - 1) (j := 1) (hp 1 (by decide) (by decide)).1
    have l2 := pv_ge (w := q) (m := pcn q 9 - 1) (j := 1) (hq 1 (by decide) (by decide)).1
    rw [show pcn p 9 - 1 + 1 = pcn p 9 by omega] at l1
    rw [show pcn q 9 - 1 + 1 = pcn q 9 by omega] at l2
    rcases Nat.lt_trichotomy (pcn p 9) (pcn q 9) with h | h | h
    · have : 10 ^ pcn p 9 ≤ 10 ^ (pcn q 9 - 1) := Nat.pow_le_pow_right (by decide) (by omega)
      omega
    · exact h
    · have : 10 ^ pcn q 9 ≤ 10 ^ (pcn p 9 - 1) := Nat.pow_le_pow_right (by decide) (by omega)
      omega
  intro j h1 h9
  by_cases hj : j ≤ pcn p 9
  · refine pv_inj (p := p) (q := q) (pcn p 9) 1 (fun i a b => ⟨(hp i a (by omega)).2, (hq i a (by omega)).2⟩) ?_ j h1 (by omega)
    rw [hc] at e ⊢; exact e
  · rw [pcn_id p 9 j (by omega) h9, pcn_id q 9 j (by omega) h9]
theorem cnt_congr {p q : Nat → Nat} (h : ∀ j, 1 ≤ j → j ≤ 9 → p j = q j) {i : Nat} (h1 : 1 ≤ i) (h9 : i ≤ 9) : cnt p i = cnt q i := by
  unfold cnt
  refine sm_congr _ _ (fun k a b => ?_)
  unfold cN
  rw [h k (by omega) (by omega), h i h1 h9]
theorem ln_congr {p q : Nat → Nat} (h : ∀ j, 1 ≤ j → j ≤ 9 → p j = q j) : ln p = ln q := by
  unfold ln
  exact sm_congr _ _ (fun k a b => cnt_congr h a (by omega))
/-- the bit of a place; whether a cross is there -/
def btp (i j : Nat) : Nat := if i = 1 then j - 1 else if i = 2 then j + 3 else if i = 3 then j + 6 else 9
def crs (m i j : Nat) : Bool := (decide (1 ≤ i) && decide (i ≤ 4) && decide (1 ≤ j) && decide (j + i ≤ 5)) && m.testBit (btp i j)
theorem btp_lt {i j : Nat} (h1 : 1 ≤ i) (h4 : i ≤ 4) (hj : 1 ≤ j) (hij : j + i ≤ 5) : btp i j < 10 := by
  unfold btp
  split
  · omega
  · split
    · omega
    · split <;> omega
theorem crs_in {m i j : Nat} (h1 : 1 ≤ i) (h4 : i ≤ 4) (hj : 1 ≤ j) (hij : j + i ≤ 5) : crs m i j = m.testBit (btp i j) := by
  unfold crs
  rw [decide_eq_true h1, decide_eq_true h4, decide_eq_true hj, decide_eq_true hij]; rfl
theorem crs_out {m i j : Nat} (h : ¬ (1 ≤ i ∧ i ≤ 4 ∧ 1 ≤ j ∧ j + i ≤ 5)) : crs m i j = false := by
  unfold crs
  by_cases h1 : 1 ≤ i
  · by_cases h2 : i ≤ 4
    · by_cases h3 : 1 ≤ j
      · rw [decide_eq_false (by omega : ¬ j + i ≤ 5)]; simp
      · rw [decide_eq_false h3]; simp
    · rw [decide_eq_false h2]; simp
  · rw [decide_eq_false h1]; simp
theorem bitOf_6 {i j : Nat} (h1 : 1 ≤ i) (h4 : i ≤ 4) (hj : 1 ≤ j) (hij : j + i ≤ 5) : fX6_bitOf (nI i) (nI j) = some (nI (btp i j)) := by
  simp only [fX6_bitOf, i_lit, nI_add]
  rw [i_dif hj]
  simp (disch := omega) only [nI_eq]
  unfold btp
  by_cases e1 : i = 1
  · rw [if_pos e1, if_pos e1]
  · rw [if_neg e1, if_neg e1]
    by_cases e2 : i = 2
    · rw [if_pos e2, if_pos e2]
    · rw [if_neg e2, if_neg e2]
      by_cases e3 : i = 3
      · rw [if_pos e3, if_pos e3]
      · rw [if_neg e3, if_neg e3]
theorem isCross_6 {m : Nat} (hm : m < 1024) {i j : Nat} (hi : i ≤ 9) (hj : j ≤ 9) : fX6_isCross (nI m) (nI i) (nI j) = some (fB (crs m i j)) := by
  simp only [fX6_isCross, fX6_isPlace, i_lit, within_6, bd_some]
  simp (disch := omega) only [nI_ltI]
  by_cases h1 : i < 1 ∨ 4 < i
  · rw [if_pos h1, if_pos rfl, bd_some, if_pos rfl, crs_out (by omega)]; rfl
  · rw [if_neg h1, if_neg (by decide : ¬ nI 1 = nI 0), i_dif (by omega : i ≤ 5)]
    simp (disch := omega) only [nI_ltI]
    by_cases h2 : j < 1 ∨ 5 - i < j
    · rw [if_pos h2, if_pos rfl, bd_some, if_pos rfl, crs_out (by omega)]; rfl
    · rw [if_neg h2, if_neg (by decide : ¬ nI 1 = nI 0), bd_some, if_neg (by decide : ¬ nI 1 = nI 0), bitOf_6 (by omega) (by omega) (by omega) (by omega), bd_some, mk_get m hm _ (btp_lt (by omega) (by omega) (by omega) (by omega)), crs_in (by omega) (by omega) (by omega) (by omega)]
      cases m.testBit (btp i j) with
      | true => rw [if_pos rfl, if_pos rfl]; rfl
      | false => rw [if_neg (by decide : ¬ false = true), if_neg (by decide : ¬ nI 0 = nI 1)]; rfl
theorem fa_bit {n j : Nat} (hj : j < 10) (hn : n < 1024) : nI n &&& nI (2 ^ j) = nI 0 ↔ n.testBit j = false := by
  have e : nI n &&& nI (2 ^ j) = nI (n &&& 2 ^ j) := by
    apply Int32.toBitVec_inj.1
    show BitVec.ofNat 32 n &&& BitVec.ofNat 32 (2 ^ j) = BitVec.ofNat 32 (n &&& 2 ^ j)
    exact BitVec.ofNat_and.symm
  have hl : n &&& 2 ^ j < 1024 := Nat.lt_of_le_of_lt Nat.and_le_left hn
  rw [e, nI_eq (by omega) (by decide), Nat.and_two_pow]
  cases n.testBit j with
  | false => simp
  | true => simp
theorem bitOf_5 {i j : Nat} (h1 : 1 ≤ i) (h4 : i ≤ 4) (hj : 1 ≤ j) (hij : j + i ≤ 5) : fX5_bitOf (nI i) (nI j) = some (nI (2 ^ btp i j)) := by
  have hb : ∀ i, i < 5 → tFIRST_BIT i = nI (if i = 2 then 4 else if i = 3 then 7 else if i = 4 then 9 else 0) := by decide
  have hbt := btp_lt h1 h4 hj hij
  simp only [fX5_bitOf, i_lit]
  simp (disch := omega) only [nI_ltI, nI_leI, gI_at]
  rw [if_neg (by omega), if_pos h4, hb i (by omega), nI_add, i_dif (by omega)]
  have e : (if i = 2 then 4 else if i = 3 then 7 else if i = 4 then 9 else 0) + j - 1 = btp i j := by
    unfold btp
    rcases (show i = 1 ∨ i = 2 ∨ i = 3 ∨ i = 4 by omega) with rfl | rfl | rfl | rfl
    · simp
    · simp; omega
    · simp; omega
    · simp; omega
  rw [e, (sh_d _ hbt).2]
theorem isCross_5 {m : Nat} (hm : m < 1024) {i j : Nat} (hi : i ≤ 9) (hj : j ≤ 9) : fX5_isCrossAt (nI m) (nI i) (nI j) = some (fB (crs m i j)) := by
  simp only [fX5_isCrossAt, i_lit]
  simp (disch := omega) only [nI_ltI]
  by_cases h1 : i < 1
  · rw [if_pos h1, crs_out (by omega)]; rfl
  · rw [if_neg h1]
    by_cases h2 : 4 < i
    · rw [if_pos h2, crs_out (by omega)]; rfl
    · rw [if_neg h2]
      by_cases h3 : j < 1
      · rw [if_pos h3, crs_out (by omega)]; rfl
      · rw [if_neg h3, i_dif (by omega : i ≤ 5)]
        simp (disch := omega) only [nI_leI]
        by_cases h4 : j ≤ 5 - i
        · rw [if_pos h4, bitOf_5 (by omega) (by omega) (by omega) (by omega), bd_some, crs_in (by omega) (by omega) (by omega) (by omega)]
          have hb := fa_bit (btp_lt (by omega : 1 ≤ i) (by omega) (by omega : 1 ≤ j) (by omega)) hm
          cases hc : m.testBit (btp i j) with
          | false => rw [if_pos (hb.mpr hc)]; rfl
          | true =>
            rw [if_neg (fun q => by have := hb.mp q; rw [hc] at this; cases this)]; rfl
        · rw [if_neg h4, crs_out (by omega)]; rfl
/-- what crosses make, read one by one -/
abbrev WC : Type := (Nat → Nat) × Nat
def mst (b : Bool) (a : Nat) (s : WC) : WC := if b then (sw s.1 a (a + 1), s.2 + 1) else s
def mkC (m : Nat) : Nat → Nat → WC → WC
  | 0, _, s => s
  | n + 1, k, s => mkC m n (k + 1) (mst (m.testBit (([3, 2, 1, 0, 6, 5, 4, 8, 7, 9] : List Nat).getD k 0)) (([4, 3, 2, 1, 4, 3, 2, 4, 3, 4] : List Nat).getD k 0) s)
def mk2 (m i : Nat) : Nat → WC → WC
  | 0, s => s
  | j + 1, s => mk2 m i j (mst (crs m i (j + 1)) (i + j) s)
def idw : Nat → Nat := fun j => j
def mdC (m : Nat) : WC := mkC m 10 0 (idw, 0)
def md6 (m : Nat) : WC := mk2 m 4 1 (mk2 m 3 2 (mk2 m 2 3 (mk2 m 1 4 (idw, 0))))
theorem md_eq (m : Nat) : mdC m = md6 m := rfl
theorem md_bc : ∀ m, m < 1024 → (md6 m).2 = bc m := by decide +kernel
