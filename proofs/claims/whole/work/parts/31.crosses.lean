/-! ===== crosses ===== -/
theorem pv_acc (w : Nat → Nat) : ∀ (m acc j : Nat), pv w m acc j = acc * 10 ^ m + pv w m 0 j := by
  intro m
  induction m with
  | zero => intro acc j; simp [pv]
  | succ m ih =>
    intro acc j
    simp only [pv]
    rw [ih (acc * 10 + w j) (j + 1), ih (0 * 10 + w j) (j + 1), Nat.pow_succ, Nat.add_mul, Nat.zero_mul, Nat.zero_add, Nat.mul_comm (10 ^ m) 10, Nat.mul_assoc, Nat.add_assoc]
theorem pv_s (w : Nat → Nat) (m j : Nat) : pv w (m + 1) 0 j = w j * 10 ^ m + pv w m 0 (j + 1) := by
  simp only [pv]
  rw [pv_acc w m (0 * 10 + w j) (j + 1), Nat.zero_mul, Nat.zero_add]
theorem pv_lt {w : Nat → Nat} : ∀ (m j : Nat), (∀ i, j ≤ i → i < j + m → w i ≤ 9) → pv w m 0 j < 10 ^ m := by
  intro m
  induction m with
  | zero => intro j _; simp [pv]
  | succ m ih =>
    intro j h
    rw [pv_s, Nat.pow_succ]
    have h1 := ih (j + 1) (fun i a b => h i (by omega) (by omega))
    have h2 := h j (Nat.le_refl _) (by omega)
    have h3 : w j * 10 ^ m ≤ 9 * 10 ^ m := Nat.mul_le_mul_right _ h2
    omega
theorem pv_inj {p q : Nat → Nat} : ∀ (m j : Nat), (∀ i, j ≤ i → i < j + m → p i ≤ 9 ∧ q i ≤ 9) → pv p m 0 j = pv q m 0 j → ∀ i, j ≤ i → i < j + m → p i = q i := by
  intro m
  induction m with
  | zero => intro j _ _ i h1 h2; omega
  | succ m ih =>
    intro j h e i h1 h2
    rw [pv_s, pv_s] at e
    have a := pv_lt (w := p) m (j + 1) (fun i a b => (h i (by omega) (by omega)).1)
    have b := pv_lt (w := q) m (j + 1) (fun i a b => (h i (by omega) (by omega)).2)
    have hpos : 0 < 10 ^ m := Nat.pow_pos (by decide)
    have e1 : p j = q j := by
      have x1 : (p j * 10 ^ m + pv p m 0 (j + 1)) / 10 ^ m = p j := by
        rw [Nat.mul_comm, Nat.mul_add_div hpos, Nat.div_eq_of_lt a, Nat.add_zero]
      have x2 : (q j * 10 ^ m + pv q m 0 (j + 1)) / 10 ^ m = q j := by
        rw [Nat.mul_comm, Nat.mul_add_div hpos, Nat.div_eq_of_lt b, Nat.add_zero]
      rw [← x1, ← x2, e]
    by_cases hi : i = j
    · rw [hi]; exact e1
    · rw [e1] at e
      exact ih (j + 1) (fun i a b => h i (by omega) (by omega)) (by omega) i (by omega) (by omega)
theorem pv_ge {w : Nat → Nat} {m j : Nat} (h : 1 ≤ w j) : 10 ^ m ≤ pv w (m + 1) 0 j := by
  rw [pv_s]
  have : 1 * 10 ^ m ≤ w j * 10 ^ m := Nat.mul_le_mul_right _ h
  omega
/-- digits of 1 to 9 at places 1 to 9 -/
def Rg (w : Nat → Nat) : Prop := ∀ k, 1 ≤ k → k ≤ 9 → 1 ≤ w k ∧ w k ≤ 9
theorem Dg.rg {row : Nat → Int32} {w : Nat → Nat} (h : Dg row w) : Rg w := fun k h1 h9 => (h k h1 h9).2
theorem plN_lt {w : Nat → Nat} (h : Rg w) : plN w < 10 ^ 9 := by
  have hp := pcn_in w 9 (by decide)
  have := pv_lt (w := w) (pcn w 9) 1 (fun i a b => (h i a (by omega)).2)
  exact Nat.lt_of_lt_of_le this (Nat.pow_le_pow_right (by decide) hp.2)
theorem plN_inj {p q : Nat → Nat} (hp : Rg p) (hq : Rg q) (e : plN p = plN q) : ∀ j, 1 ≤ j → j ≤ 9 → p j = q j := by
  have a := pcn_in p 9 (by decide)
  have b := pcn_in q 9 (by decide)
  unfold plN at e
  have hc : pcn p 9 = pcn q 9 := by
    have u1 := pv_lt (w := p) (pcn p 9) 1 (fun i a b => (hp i a (by omega)).2)
    have u2 := pv_lt (w := q) (pcn q 9) 1 (fun i a b => (hq i a (by omega)).2)
    have l1 := pv_ge (w := p) (m := pcn p 9 - 1) (j := 1) (hp 1 (by decide) (by decide)).1
    have l2 := pv_ge (w := q) (m := pcn q 9 - 1) (j := 1) (hq 1 (by decide) (by decide)).1
    rw [show pcn p 9 - 1 + 1 = pcn p 9 by omega] at l1
    rw [show pcn q 9 - 1 + 1 = pcn q 9 by omega] at l2
    rcases Nat.lt_trichotomy (pcn p 9) (pcn q 9) with h | h | h
    · have : 10 ^ pcn p 9 ≤ 10 ^ (pcn q 9 - 1) := Nat.pow_le_pow_right (by decide) (by omega)
      omega
    · exact h
    · have : 10 ^ pcn q 9 ≤ 10 ^ (pcn p 9 - 1) := Nat.pow_le_pow_right (by decide) (by omega)
      omega
  intro j h1 h9
  by_cases hj : j ≤ pcn p 9
  · refine pv_inj (p := p) (q := q) (pcn p 9) 1 (fun i a b => ⟨(hp i a (by omega)).2, (hq i a (by omega)).2⟩) ?_ j h1 (by omega)
    rw [hc] at e ⊢; exact e
  · rw [pcn_id p 9 j (by omega) h9, pcn_id q 9 j (by omega) h9]
theorem cnt_congr {p q : Nat → Nat} (h : ∀ j, 1 ≤ j → j ≤ 9 → p j = q j) {i : Nat} (h1 : 1 ≤ i) (h9 : i ≤ 9) : cnt p i = cnt q i := by
  unfold cnt
  refine sm_congr _ _ (fun k a b => ?_)
  unfold cN
  rw [h k (by omega) (by omega), h i h1 h9]
theorem ln_congr {p q : Nat → Nat} (h : ∀ j, 1 ≤ j → j ≤ 9 → p j = q j) : ln p = ln q := by
  unfold ln
  exact sm_congr _ _ (fun k a b => cnt_congr h a (by omega))
/-- the bit of a place; whether a cross is there -/
def btp (i j : Nat) : Nat := if i = 1 then j - 1 else if i = 2 then j + 3 else if i = 3 then j + 6 else 9
def crs (m i j : Nat) : Bool := (decide (1 ≤ i) && decide (i ≤ 4) && decide (1 ≤ j) && decide (j + i ≤ 5)) && m.testBit (btp i j)
theorem btp_lt {i j : Nat} (h1 : 1 ≤ i) (h4 : i ≤ 4) (hj : 1 ≤ j) (hij : j + i ≤ 5) : btp i j < 10 := by
  unfold btp
  split
  · omega
  · split
    · omega
    · split <;> omega
theorem crs_in {m i j : Nat} (h1 : 1 ≤ i) (h4 : i ≤ 4) (hj : 1 ≤ j) (hij : j + i ≤ 5) : crs m i j = m.testBit (btp i j) := by
  unfold crs
  rw [decide_eq_true h1, decide_eq_true h4, decide_eq_true hj, decide_eq_true hij]; rfl
theorem crs_out {m i j : Nat} (h : ¬ (1 ≤ i ∧ i ≤ 4 ∧ 1 ≤ j ∧ j + i ≤ 5)) : crs m i j = false := by
  unfold crs
  by_cases h1 : 1 ≤ i
  · by_cases h2 : i ≤ 4
    · by_cases h3 : 1 ≤ j
      · rw [decide_eq_false (by omega : ¬ j + i ≤ 5)]; simp
      · rw [decide_eq_false h3]; simp
    · rw [decide_eq_false h2]; simp
  · rw [decide_eq_false h1]; simp
theorem bitOf_6 {i j : Nat} (h1 : 1 ≤ i) (h4 : i ≤ 4) (hj : 1 ≤ j) (hij : j + i ≤ 5) : fX6_bitOf (nI i) (nI j) = some (nI (btp i j)) := by
  simp only [fX6_bitOf, i_lit, nI_add]
  rw [i_dif hj]
  simp (disch := omega) only [nI_eq]
  unfold btp
  by_cases e1 : i = 1
  · rw [if_pos e1, if_pos e1]
  · rw [if_neg e1, if_neg e1]
    by_cases e2 : i = 2
    · rw [if_pos e2, if_pos e2]
    · rw [if_neg e2, if_neg e2]
      by_cases e3 : i = 3
      · rw [if_pos e3, if_pos e3]
      · rw [if_neg e3, if_neg e3]
theorem isCross_6 {m : Nat} (hm : m < 1024) {i j : Nat} (hi : i ≤ 9) (hj : j ≤ 9) : fX6_isCross (nI m) (nI i) (nI j) = some (fB (crs m i j)) := by
  simp only [fX6_isCross, fX6_isPlace, i_lit, within_6, bd_some]
  simp (disch := omega) only [nI_ltI]
  by_cases h1 : i < 1 ∨ 4 < i
  · rw [if_pos h1, if_pos rfl, bd_some, if_pos rfl, crs_out (by omega)]; rfl
  · rw [if_neg h1, if_neg (by decide : ¬ nI 1 = nI 0), i_dif (by omega : i ≤ 5)]
    simp (disch := omega) only [nI_ltI]
    by_cases h2 : j < 1 ∨ 5 - i < j
    · rw [if_pos h2, if_pos rfl, bd_some, if_pos rfl, crs_out (by omega)]; rfl
    · rw [if_neg h2, if_neg (by decide : ¬ nI 1 = nI 0), bd_some, if_neg (by decide : ¬ nI 1 = nI 0), bitOf_6 (by omega) (by omega) (by omega) (by omega), bd_some, mk_get m hm _ (btp_lt (by omega) (by omega) (by omega) (by omega)), crs_in (by omega) (by omega) (by omega) (by omega)]
      cases m.testBit (btp i j) with
      | true => rw [if_pos rfl, if_pos rfl]; rfl
      | false => rw [if_neg (by decide : ¬ false = true), if_neg (by decide : ¬ nI 0 = nI 1)]; rfl
theorem fa_bit {n j : Nat} (hj : j < 10) (hn : n < 1024) : nI n &&& nI (2 ^ j) = nI 0 ↔ n.testBit j = false := by
  have e : nI n &&& nI (2 ^ j) = nI (n &&& 2 ^ j) := by
    apply Int32.toBitVec_inj.1
    show BitVec.ofNat 32 n &&& BitVec.ofNat 32 (2 ^ j) = BitVec.ofNat 32 (n &&& 2 ^ j)
    exact BitVec.ofNat_and.symm
  have hl : n &&& 2 ^ j < 1024 := Nat.lt_of_le_of_lt Nat.and_le_left hn
  rw [e, nI_eq (by omega) (by decide)]
  constructor
  · intro h
    cases hc : n.testBit j with
    | false => rfl
    | true =>
      have h2 : (n &&& 2 ^ j).testBit j = true := by rw [Nat.testBit_and, hc, Nat.testBit_two_pow, decide_eq_true rfl]; rfl
      rw [h, Nat.zero_testBit] at h2
      cases h2
  · intro h
    apply Nat.eq_of_testBit_eq
    intro i
    rw [Nat.testBit_and, Nat.testBit_two_pow, Nat.zero_testBit]
    by_cases ei : j = i
    · subst ei; rw [h]; rfl
    · rw [decide_eq_false ei, Bool.and_false]
theorem bitOf_5 {i j : Nat} (h1 : 1 ≤ i) (h4 : i ≤ 4) (hj : 1 ≤ j) (hij : j + i ≤ 5) : fX5_bitOf (nI i) (nI j) = some (nI (2 ^ btp i j)) := by
  have hb : ∀ i, i < 5 → tFIRST_BIT i = nI (if i = 2 then 4 else if i = 3 then 7 else if i = 4 then 9 else 0) := by decide
  have hbt := btp_lt h1 h4 hj hij
  simp only [fX5_bitOf, i_lit]
  simp (disch := omega) only [nI_ltI, nI_leI, gI_at]
  rw [if_neg (by omega), if_pos h4, hb i (by omega), nI_add, i_dif (by omega)]
  have e : (if i = 2 then 4 else if i = 3 then 7 else if i = 4 then 9 else 0) + j - 1 = btp i j := by
    unfold btp
    rcases (show i = 1 ∨ i = 2 ∨ i = 3 ∨ i = 4 by omega) with rfl | rfl | rfl | rfl
    · simp
    · simp; omega
    · simp; omega
    · simp; omega
  rw [e, (sh_d _ hbt).2]
theorem isCross_5 {m : Nat} (hm : m < 1024) {i j : Nat} (hi : i ≤ 9) (hj : j ≤ 9) : fX5_isCrossAt (nI m) (nI i) (nI j) = some (fB (crs m i j)) := by
  simp only [fX5_isCrossAt, i_lit]
  simp (disch := omega) only [nI_ltI]
  by_cases h1 : i < 1
  · rw [if_pos h1, crs_out (by omega)]; rfl
  · rw [if_neg h1]
    by_cases h2 : 4 < i
    · rw [if_pos h2, crs_out (by omega)]; rfl
    · rw [if_neg h2]
      by_cases h3 : j < 1
      · rw [if_pos h3, crs_out (by omega)]; rfl
      · rw [if_neg h3, i_dif (by omega : i ≤ 5)]
        simp (disch := omega) only [nI_leI]
        by_cases h4 : j ≤ 5 - i
        · rw [if_pos h4, bitOf_5 (by omega) (by omega) (by omega) (by omega), bd_some, crs_in (by omega) (by omega) (by omega) (by omega)]
          have hb := fa_bit (btp_lt (by omega : 1 ≤ i) (by omega) (by omega : 1 ≤ j) (by omega)) hm
          cases hc : m.testBit (btp i j) with
          | false => rw [if_pos (hb.mpr hc)]; rfl
          | true =>
            rw [if_neg (fun q => by have := hb.mp q; rw [hc] at this; cases this)]; rfl
        · rw [if_neg h4, crs_out (by omega)]; rfl
/-- what crosses make, read one by one -/
abbrev WC : Type := (Nat → Nat) × Nat
def mst (b : Bool) (a : Nat) (s : WC) : WC := if b then (sw s.1 a (a + 1), s.2 + 1) else s
def mkC (m : Nat) : Nat → Nat → WC → WC
  | 0, _, s => s
  | n + 1, k, s => mkC m n (k + 1) (mst (m.testBit (([3, 2, 1, 0, 6, 5, 4, 8, 7, 9] : List Nat).getD k 0)) (([4, 3, 2, 1, 4, 3, 2, 4, 3, 4] : List Nat).getD k 0) s)
def mk2 (m i : Nat) : Nat → WC → WC
  | 0, s => s
  | j + 1, s => mk2 m i j (mst (crs m i (j + 1)) (i + j) s)
def idw : Nat → Nat := fun j => j
def mdC (m : Nat) : WC := mkC m 10 0 (idw, 0)
def md6 (m : Nat) : WC := mk2 m 4 1 (mk2 m 3 2 (mk2 m 2 3 (mk2 m 1 4 (idw, 0))))
theorem md_eq (m : Nat) : mdC m = md6 m := rfl
theorem md_bc : ∀ m, m < 1024 → (md6 m).2 = bc m := by decide +kernel
theorem mst_rg {b : Bool} {a : Nat} {s : WC} (ha : 1 ≤ a) (ha8 : a ≤ 8) (h : Rg s.1) : Rg (mst b a s).1 := by
  unfold mst
  cases b with
  | false => exact h
  | true =>
    intro k h1 h9
    show 1 ≤ sw s.1 a (a + 1) k ∧ sw s.1 a (a + 1) k ≤ 9
    unfold sw
    split
    · exact h a ha (by omega)
    · split
      · exact h (a + 1) (by omega) (by omega)
      · exact h k h1 h9
theorem made_L {m : Nat} (hm : m < 1024) : ∀ (n fl k : Nat) (row : Nat → Int32) (s : WC), k + n = 10 → n < fl → Dg row s.1 → ∃ row', fX1_becomeMade_L6 (nI m) fl row (nI k) = some row' ∧ Dg row' (mkC m n k s).1 := by
  intro n
  induction n with
  | zero =>
    intro fl k row s hk hf h
    obtain ⟨fl, rfl⟩ : ∃ q, fl = q + 1 := ⟨fl - 1, by omega⟩
    refine ⟨row, ?_, h⟩
    simp only [fX1_becomeMade_L6, i_lit]
    rw [if_pos ((nI_leI (by omega) (by omega)).mpr (by omega))]
  | succ n ih =>
    intro fl k row s hk hf h
    obtain ⟨fl, rfl⟩ : ∃ q, fl = q + 1 := ⟨fl - 1, by omega⟩
    have hb : ∀ k, k < 10 → tREAD_BIT k = nI (([3, 2, 1, 0, 6, 5, 4, 8, 7, 9] : List Nat).getD k 0) ∧ tREAD_PLACE k = nI (([4, 3, 2, 1, 4, 3, 2, 4, 3, 4] : List Nat).getD k 0) ∧ ([3, 2, 1, 0, 6, 5, 4, 8, 7, 9] : List Nat).getD k 0 < 10 ∧ 1 ≤ ([4, 3, 2, 1, 4, 3, 2, 4, 3, 4] : List Nat).getD k 0 ∧ ([4, 3, 2, 1, 4, 3, 2, 4, 3, 4] : List Nat).getD k 0 ≤ 4 := by decide
    obtain ⟨b1, b2, b3, b4, b5⟩ := hb k (by omega)
    simp only [mkC]
    generalize ([3, 2, 1, 0, 6, 5, 4, 8, 7, 9] : List Nat).getD k 0 = bb at b1 b3 ⊢
    generalize ([4, 3, 2, 1, 4, 3, 2, 4, 3, 4] : List Nat).getD k 0 = pp at b2 b4 b5 ⊢
    simp only [fX1_becomeMade_L6, i_lit, nmE, nI_add]
    rw [if_neg (fun q => by rw [nI_leI (by omega) (by omega)] at q; omega)]
    simp (disch := omega) only [gI_at, b1, b2, nI_add]
    rw [mk_get m hm bb b3]
    cases m.testBit bb with
    | true =>
      obtain ⟨row1, e1, d1⟩ := exch_1 h b4 (by omega : pp ≤ 9) (by omega : 1 ≤ pp + 1) (by omega)
      obtain ⟨row', e2, d2⟩ := ih fl (k + 1) row1 (mst true pp s) (by omega) (by omega) d1
      refine ⟨row', ?_, d2⟩
      rw [if_pos rfl, if_pos rfl, e1, bd_some]
      exact e2
    | false =>
      obtain ⟨row', e2, d2⟩ := ih fl (k + 1) row (mst false pp s) (by omega) (by omega) h
      refine ⟨row', ?_, d2⟩
      rw [if_neg (by decide : ¬ false = true), if_neg (by decide : ¬ nI 0 = nI 1)]
      exact e2
theorem becomeMade_1 {m : Nat} (hm : m < 1024) (row : Nat → Int32) : ∃ row', fX1_becomeMade row (nI m) = some row' ∧ Dg row' (md6 m).1 := by
  obtain ⟨row1, e1, d1⟩ := stay_1 row
  have h : Dg row1 idw := fun k h1 h9 => by rw [d1 k, if_pos ⟨h1, h9⟩]; exact ⟨rfl, h1, h9⟩
  obtain ⟨row', e2, d2⟩ := made_L hm 10 fu 0 row1 (idw, 0) rfl (by rw [fu_s]; omega) h
  refine ⟨row', ?_, by rw [← md_eq]; exact d2⟩
  simp only [fX1_becomeMade, e1, bd_some, i_lit]
  exact e2
theorem tight_L35 {m : Nat} (hm : m < 1024) {i : Nat} (hi : 1 ≤ i) (hi4 : i ≤ 4) (rec : (Nat → Int32) → Int32 → Int32 → Option (Int32 × (Nat → Int32))) : ∀ (j fl : Nat) (row : Nat → Int32) (s : WC), j + i ≤ 5 → j < fl → Dg row s.1 → ∃ row', fX6_areTight_L35 (nI m) rec fl row (nI s.2) (nI i) (nI j) = rec row' (nI (mk2 m i j s).2) (nI (i + 1)) ∧ Dg row' (mk2 m i j s).1 := by
  intro j
  induction j with
  | zero =>
    intro fl row s hj hf h
    obtain ⟨fl, rfl⟩ : ∃ q, fl = q + 1 := ⟨fl - 1, by omega⟩
    refine ⟨row, ?_, h⟩
    simp only [fX6_areTight_L35, i_lit, nmE, nI_add]
    rw [if_pos (by decide : nI 0 ≤ nI 0)]
    rfl
  | succ j ih =>
    intro fl row s hj hf h
    obtain ⟨fl, rfl⟩ : ∃ q, fl = q + 1 := ⟨fl - 1, by omega⟩
    simp only [fX6_areTight_L35, i_lit, nmE, nI_add, isCross_6 hm (by omega : i ≤ 9) (by omega : j + 1 ≤ 9), bd_some]
    rw [if_neg (fun q => by rw [nI_leI (by omega) (by omega)] at q; omega), nI_dec (by omega : 0 < j + 1), i_dif (by omega : 1 ≤ i + (j + 1))]
    simp only [mk2]
    cases crs m i (j + 1) with
    | true =>
      obtain ⟨row1, e1, d1⟩ := exch_6 h (by omega : 1 ≤ i + (j + 1) - 1) (by omega) (by omega : 1 ≤ i + (j + 1)) (by omega)
      have d1' : Dg row1 (mst true (i + j) s).1 := by
        have : i + (j + 1) - 1 = i + j := by omega
        rw [this] at d1
        exact d1
      obtain ⟨row', e2, d2⟩ := ih fl row1 (mst true (i + j) s) (by omega) (by omega) d1'
      refine ⟨row', ?_, d2⟩
      rw [if_neg (by decide : ¬ fB true = nI 0), e1, bd_some]
      exact e2
    | false =>
      obtain ⟨row', e2, d2⟩ := ih fl row (mst false (i + j) s) (by omega) (by omega) h
      refine ⟨row', ?_, d2⟩
      rw [if_pos fB_f]
      exact e2
theorem tight_row {m : Nat} (hm : m < 1024) {i : Nat} (hi : 1 ≤ i) (hi4 : i ≤ 4) : ∀ (fl : Nat) (row : Nat → Int32) (s : WC), 0 < fl → Dg row s.1 → ∃ row', fX6_areTight_L25 (nI m) fl row (nI s.2) (nI i) = fX6_areTight_L25 (nI m) (fl - 1) row' (nI (mk2 m i (5 - i) s).2) (nI (i + 1)) ∧ Dg row' (mk2 m i (5 - i) s).1 := by
  intro fl row s hf h
  obtain ⟨fl, rfl⟩ : ∃ q, fl = q + 1 := ⟨fl - 1, by omega⟩
  obtain ⟨row', e1, d1⟩ := tight_L35 hm hi hi4 (fX6_areTight_L25 (nI m) fl) (5 - i) fu row s (by omega) (by rw [fu_s]; omega) h
  refine ⟨row', ?_, d1⟩
  simp only [fX6_areTight_L25, i_lit, nmE]
  rw [if_neg (fun q => by rw [nI_ltI (by omega) (by omega)] at q; omega), i_dif (by omega : i ≤ 5), e1]
  rfl
theorem tight_end {m : Nat} : ∀ (fl : Nat) (row : Nat → Int32) (s : WC), 0 < fl → s.2 < 100 → Dg row s.1 → fX6_areTight_L25 (nI m) fl row (nI s.2) (nI 5) = some (fB (decide (ln s.1 = s.2)), row) := by
  intro fl row s hf hs h
  obtain ⟨fl, rfl⟩ : ∃ q, fl = q + 1 := ⟨fl - 1, by omega⟩
  have hl := ln_le s.1
  simp only [fX6_areTight_L25, i_lit, nmE, lengthOf_6 h, bd_some]
  rw [if_pos (by decide : nI 4 < nI 5)]
  by_cases hc : ln s.1 = s.2
  · rw [if_pos (by rw [hc]), decide_eq_true hc]; rfl
  · rw [if_neg (by rw [nI_eq (by omega) (by omega)]; exact hc), decide_eq_false hc]; rfl
theorem tight_L4 {m : Nat} : ∀ (q fl k : Nat) (row : Nat → Int32), k + q = 10 → 1 ≤ k → q < fl → (∀ j, 1 ≤ j → j < k → row j = nI j) → ∃ row', fX6_areTight_L4 (nI m) fl row (nI 0) (nI k) = fX6_areTight_L25 (nI m) fu row' (nI 0) (nI 1) ∧ Dg row' idw := by
  intro q
  induction q with
  | zero =>
    intro fl k row hk h1 hf h
    obtain ⟨fl, rfl⟩ : ∃ q, fl = q + 1 := ⟨fl - 1, by omega⟩
    refine ⟨row, ?_, fun j a b => ⟨h j a (by omega), a, b⟩⟩
    simp only [fX6_areTight_L4, i_lit]
    rw [if_pos ((nI_ltI (by omega) (by omega)).mpr (by omega))]
  | succ q ih =>
    intro fl k row hk h1 hf h
    obtain ⟨fl, rfl⟩ : ∃ q, fl = q + 1 := ⟨fl - 1, by omega⟩
    simp only [fX6_areTight_L4, i_lit, nmE, nI_add]
    rw [if_neg (fun q => by rw [nI_ltI (by omega) (by omega)] at q; omega), pI_at (by omega) (by decide)]
    refine ih fl (k + 1) _ (by omega) (by omega) (by omega) (fun j a b => ?_)
    by_cases e : j = k
    · subst e; exact upd_s
    · rw [upd_n e]; exact h j a (by omega)
theorem bc_le (m : Nat) : bc m ≤ 10 := by unfold bc; omega
theorem areTight_6 {m : Nat} (hm : m < 1024) (row : Nat → Int32) : ∃ row', fX6_areTight row (nI m) = some (fB (decide (ln (md6 m).1 = bc m)), row') ∧ Dg row' (md6 m).1 := by
  obtain ⟨r0, e0, d0⟩ := tight_L4 (m := m) 9 fu 1 row rfl (by decide) (by rw [fu_s]; omega) (fun j a b => by omega)
  obtain ⟨r1, e1, d1⟩ := tight_row hm (by decide : 1 ≤ 1) (by decide) fu r0 (idw, 0) fu_pos d0
  obtain ⟨r2, e2, d2⟩ := tight_row hm (by decide : 1 ≤ 2) (by decide) (fu - 1) r1 _ (by rw [fu_s]; omega) d1
  obtain ⟨r3, e3, d3⟩ := tight_row hm (by decide : 1 ≤ 3) (by decide) (fu - 1 - 1) r2 _ (by rw [fu_s]; omega) d2
  obtain ⟨r4, e4, d4⟩ := tight_row hm (by decide : 1 ≤ 4) (by decide) (fu - 1 - 1 - 1) r3 _ (by rw [fu_s]; omega) d3
  have hs : mk2 m 4 (5 - 4) (mk2 m 3 (5 - 3) (mk2 m 2 (5 - 2) (mk2 m 1 (5 - 1) (idw, 0)))) = md6 m := rfl
  rw [hs] at e4 d4
  have hb := md_bc m hm
  have e5 := tight_end (m := m) (fu - 1 - 1 - 1 - 1) r4 (md6 m) (by rw [fu_s]; omega) (by have := bc_le m; omega) d4
  rw [hb] at e5 e4
  refine ⟨r4, ?_, d4⟩
  simp only [fX6_areTight, i_lit]
  rw [e0]
  exact e1.trans (e2.trans (e3.trans (e4.trans e5)))
theorem crossSet_5 (x : Int32) : fX5_isCrossSet x = some (if x < nI 0 ∨ nI 1023 < x then nI 0 else nI 1) := by
  simp only [fX5_isCrossSet, i_lit]
  by_cases h1 : x < nI 0
  · rw [if_pos (Or.inl h1), if_pos h1]
  · by_cases h2 : nI 1023 < x
    · rw [if_pos (Or.inr h2), if_neg h1]
      rw [if_pos (by
        rw [Int32.lt_iff_toInt_lt, nI_toInt (by decide)] at h2
        rw [Int32.le_iff_toInt_le, nI_toInt (by decide)]
        omega)]
    · rw [if_neg h1, if_neg (show ¬ (x < nI 0 ∨ nI 1023 < x) from fun h => h.elim h1 h2)]
      rw [if_neg (by
        rw [Int32.lt_iff_toInt_lt, nI_toInt (by decide)] at h2
        rw [Int32.le_iff_toInt_le, nI_toInt (by decide)]
        omega)]
theorem oq_makes (k1 k2 : Nat → Int32) (a1 : Int32) : ∃ (r5 : Int32 × (Nat → Int32)) (r6 : Int32 × (Nat → Int32)), fX5_makes k1 a1 = some r5 ∧ fX6_makes k2 a1 = some r6 ∧ r5.1 = r6.1 := by
  rcases i_range a1 0 1023 (by decide) (by decide) with h | ⟨m, _, hm, rfl⟩
  · refine ⟨(-nI 2, k1), (-nI 2, k2), ?_, ?_, rfl⟩
    · simp only [fX5_makes, crossSet_5, bd_some, i_lit]
      rw [if_pos h, if_pos rfl]
    · simp only [fX6_makes, within_6, bd_some, i_lit]
      rw [if_pos h, if_pos rfl]
  · have hc : ¬ (nI m < nI 0 ∨ nI 1023 < nI m) := by rw [nI_ltI (by omega) (by omega), nI_ltI (by omega) (by omega)]; omega
    have h10 : ¬ nI 1 = nI 0 := by decide
    obtain ⟨r1, e1, d1⟩ := becomeMade_1 (by omega : m < 1024) k1
    obtain ⟨r2, e2, d2⟩ := areTight_6 (by omega : m < 1024) k2
    have hl := ln_le (md6 m).1
    have hb := bc_le m
    have hbc := bitCount_J m (by omega)
    generalize (md6 m).1 = w at d1 d2 e2 hl
    generalize bc m = n at e2 hb hbc
    by_cases ht : ln w = n
    · refine ⟨(nI (plN w), r1), (nI (plN w), r2), ?_, ?_, rfl⟩
      · simp only [fX5_makes, crossSet_5, bd_some, i_lit, e1, inversions_1 d1, hbc, plainNumber_1 d1]
        rw [if_neg hc, if_neg h10, if_pos (by rw [ht])]
      · rw [decide_eq_true ht] at e2
        simp only [fX6_makes, within_6, bd_some, i_lit, e2, plainOf_6 d2]
        rw [if_neg hc, if_neg h10, if_neg (by decide : ¬ fB true = nI 0)]
    · refine ⟨(-nI 9, r1), (-nI 9, r2), ?_, ?_, rfl⟩
      · simp only [fX5_makes, crossSet_5, bd_some, i_lit, e1, inversions_1 d1, hbc]
        rw [if_neg hc, if_neg h10, if_neg (by rw [nI_eq (by omega) (by omega)]; exact ht)]
      · rw [decide_eq_false ht] at e2
        simp only [fX6_makes, within_6, bd_some, i_lit, e2]
        rw [if_neg hc, if_neg h10, if_pos fB_f]
/-! ===== dream ===== -/
theorem same_L {r1 r2 : Nat → Int32} {p q : Nat → Nat} (h1 : Dg r1 p) (h2 : Dg r2 q) : ∀ (m fl j : Nat), j + m = 10 → 1 ≤ j → m < fl → ∃ b, fX1_isSame_L2 r1 r2 fl (nI j) = some (fB b) ∧ (b = true ↔ ∀ k, j ≤ k → k ≤ 9 → p k = q k) := by
  intro m
  induction m with
  | zero =>
    intro fl j hj h0 hf
    obtain ⟨fl, rfl⟩ : ∃ q, fl = q + 1 := ⟨fl - 1, by omega⟩
    refine ⟨true, ?_, ⟨fun _ k a b => by omega, fun _ => rfl⟩⟩
    simp only [fX1_isSame_L2, i_lit]
    rw [if_pos ((nI_ltI (by omega) (by omega)).mpr (by omega))]
    rfl
  | succ m ih =>
    intro fl j hj h0 hf
    obtain ⟨fl, rfl⟩ : ∃ q, fl = q + 1 := ⟨fl - 1, by omega⟩
    obtain ⟨b, e, hb⟩ := ih fl (j + 1) (by omega) (by omega) (by omega)
    have a1 := h1 j h0 (by omega)
    have a2 := h2 j h0 (by omega)
    simp only [fX1_isSame_L2, i_lit, nmE, nI_add]
    rw [if_neg (fun q => by rw [nI_ltI (by omega) (by omega)] at q; omega), gI_at (by omega) (by decide), gI_at (by omega) (by decide), a1.1, a2.1]
    by_cases hc : p j = q j
    · refine ⟨b, ?_, ?_⟩
      · rw [if_pos (by rw [hc])]; exact e
      · rw [hb]
        constructor
        · intro h k c d
          by_cases ek : k = j
          · rw [ek]; exact hc
          · exact h k (by omega) d
        · intro h k c d; exact h k (by omega) d
    · refine ⟨false, ?_, ?_⟩
      · rw [if_neg (by rw [nI_eq (by omega) (by omega)]; exact hc)]; rfl
      · constructor
        · intro h; cases h
        · intro h; exact absurd (h j (Nat.le_refl _) (by omega)) hc
theorem same_1 {r1 r2 : Nat → Int32} {p q : Nat → Nat} (h1 : Dg r1 p) (h2 : Dg r2 q) : ∃ b, fX1_isSame r1 r2 = some (fB b) ∧ (b = true ↔ ∀ k, 1 ≤ k → k ≤ 9 → p k = q k) := by
  simp only [fX1_isSame, i_lit]
  exact same_L h1 h2 9 fu 1 rfl (by decide) (by rw [fu_s]; omega)
theorem pcn_congr {p q : Nat → Nat} : ∀ k, (∀ j, 1 ≤ j → j ≤ k → p j = q j) → pcn p k = pcn q k
  | 0, _ => rfl
  | 1, _ => rfl
  | k + 2, h => by
    simp only [pcn]
    rw [h (k + 2) (by omega) (by omega), pcn_congr (k + 1) (fun j a b => h j a (by omega))]
theorem pv_congr {p q : Nat → Nat} : ∀ (m acc j : Nat), (∀ k, j ≤ k → k < j + m → p k = q k) → pv p m acc j = pv q m acc j := by
  intro m
  induction m with
  | zero => intro acc j _; rfl
  | succ m ih =>
    intro acc j h
    simp only [pv]
    rw [h j (Nat.le_refl _) (by omega), ih _ _ (fun k a b => h k (by omega) (by omega))]
theorem plN_congr {p q : Nat → Nat} (h : ∀ j, 1 ≤ j → j ≤ 9 → p j = q j) : plN p = plN q := by
  have hp := pcn_in q 9 (by decide)
  unfold plN
  rw [pcn_congr 9 h, pv_congr _ _ _ (fun k a b => h k a (by omega))]
theorem bz_b {β : Type} (b : Bool) (k : Option β) : bz (fB b) k = k := by cases b <;> first | exact bz_0 k | exact bz_1 k
theorem dream_L {p1 p2 : Int32} {r1 o1 : Nat → Int32} {w : Nat → Nat} (h1 : Dg r1 w) : ∀ (m fl1 fl2 x n : Nat) (s o : Nat → Int32), x + m = 1024 → m < fl1 → m < fl2 → n ≤ x → ∃ (r5 r6 : Int32 × (Nat → Int32) × (Nat → Int32)), fX5_dream_L46 p1 p2 fl1 r1 s (nI (ln w)) (nI n) (nI x) = some r5 ∧ fX6_dream_L46 p1 p2 fl2 o1 o (nI (plN w)) (nI n) (nI x) = some r6 ∧ r5.1 = r6.1 := by
  intro m
  induction m with
  | zero =>
    intro fl1 fl2 x n s o hx hf1 hf2 hn
    obtain ⟨fl1, rfl⟩ : ∃ q, fl1 = q + 1 := ⟨fl1 - 1, by omega⟩
    obtain ⟨fl2, rfl⟩ : ∃ q, fl2 = q + 1 := ⟨fl2 - 1, by omega⟩
    simp only [fX5_dream_L46, fX6_dream_L46, i_lit]
    rw [if_pos ((nI_leI (by omega) (by omega)).mpr (by omega) : nI 1024 ≤ nI x), if_pos ((nI_ltI (by omega) (by omega)).mpr (by omega) : nI 1023 < nI x)]
    by_cases hp : p2 = -nI 1
    · exact ⟨(nI n, r1, s), (nI n, o1, o), by rw [if_pos hp], by rw [if_pos hp], rfl⟩
    · exact ⟨(-nI 9, r1, s), (-nI 9, o1, o), by rw [if_neg hp], by rw [if_neg hp], rfl⟩
  | succ m ih =>
    intro fl1 fl2 x n s o hx hf1 hf2 hn
    obtain ⟨fl1, rfl⟩ : ∃ q, fl1 = q + 1 := ⟨fl1 - 1, by omega⟩
    obtain ⟨fl2, rfl⟩ : ∃ q, fl2 = q + 1 := ⟨fl2 - 1, by omega⟩
    obtain ⟨s', es, ds⟩ := becomeMade_1 (by omega : x < 1024) s
    obtain ⟨o', eo, dO⟩ := areTight_6 (by omega : x < 1024) o
    have hl := ln_le (md6 x).1
    have hlw := ln_le w
    have hb := bc_le x
    have hbc := bitCount_J x (by omega)
    generalize (md6 x).1 = v at ds dO eo hl
    generalize bc x = c at eo hb hbc
    obtain ⟨b, eb, hbb⟩ := same_1 ds h1
    have hpv := plN_lt dO.rg
    have hpw := plN_lt h1.rg
    simp only [fX5_dream_L46, fX6_dream_L46, i_lit, nmE, nI_add, hbc, bd_some, eo, plainOf_6 dO, fX5_isMadeBy, es, eb, bz_b]
    rw [if_neg (fun q => by rw [nI_leI (by omega) (by omega)] at q; omega : ¬ nI 1024 ≤ nI x), if_neg (fun q => by rw [nI_ltI (by omega) (by omega)] at q; omega : ¬ nI 1023 < nI x)]
    cases b with
    | true =>
      have hs := hbb.mp rfl
      have e1 := ln_congr hs
      have e2 := plN_congr hs
      rw [if_neg (by decide : ¬ fB true = nI 0), if_pos (by rw [e2] : nI (plN v) = nI (plN w))]
      by_cases hc : c = ln w
      · rw [if_pos (by rw [hc] : nI c = nI (ln w)), decide_eq_true (by omega : ln v = c), if_neg (by decide : ¬ fB true = nI 0)]
        by_cases hp : nI n = p2
        · exact ⟨(nI x, r1, s'), (nI x, o1, o'), by rw [if_pos hp], by rw [if_pos hp], rfl⟩
        · rw [if_neg hp, if_neg hp]
          exact ih fl1 fl2 (x + 1) (n + 1) s' o' (by omega) (by omega) (by omega) (by omega)
      · rw [if_neg (by rw [nI_eq (by omega) (by omega)]; exact hc : ¬ nI c = nI (ln w)), decide_eq_false (by omega : ¬ ln v = c), if_pos fB_f]
        exact ih fl1 fl2 (x + 1) n s o' (by omega) (by omega) (by omega) (by omega)
    | false =>
      have hs : plN v ≠ plN w := fun e => by
        have := hbb.mpr (plN_inj dO.rg h1.rg e)
        cases this
      rw [if_pos fB_f, if_neg (by rw [nI_eq (by omega) (by omega)]; exact hs : ¬ nI (plN v) = nI (plN w))]
      have g6 : (if fB (decide (ln v = c)) = nI 0 then fX6_dream_L46 p1 p2 fl2 o1 o' (nI (plN w)) (nI n) (nI (x + 1)) else fX6_dream_L46 p1 p2 fl2 o1 o' (nI (plN w)) (nI n) (nI (x + 1))) = fX6_dream_L46 p1 p2 fl2 o1 o' (nI (plN w)) (nI n) (nI (x + 1)) := by
        split <;> rfl
      rw [g6]
      by_cases hc : c = ln w
      · rw [if_pos (by rw [hc] : nI c = nI (ln w))]
        exact ih fl1 fl2 (x + 1) n s' o' (by omega) (by omega) (by omega) (by omega)
      · rw [if_neg (by rw [nI_eq (by omega) (by omega)]; exact hc : ¬ nI c = nI (ln w))]
        exact ih fl1 fl2 (x + 1) n s o' (by omega) (by omega) (by omega) (by omega)
theorem oq_dream (k1 s1 k2 o2 : Nat → Int32) (a1 a2 : Int32) : ∃ (r5 : Int32 × (Nat → Int32) × (Nat → Int32)) (r6 : Int32 × (Nat → Int32) × (Nat → Int32)), fX5_dream k1 s1 a1 a2 = some r5 ∧ fX6_dream k2 o2 a1 a2 = some r6 ∧ r5.1 = r6.1 := by
  obtain ⟨b, q1, q2, e1, e2, h⟩ := read_lays k1 k2 a1
  simp only [fX5_dream, fX6_dream, e1, e2, bd_some, i_lit]
  cases b with
  | false => exact ⟨(-nI 2, q1, s1), (-nI 2, q2, o2), by rw [if_pos fB_f], by rw [if_pos fB_f], rfl⟩
  | true =>
    obtain ⟨w, d1, d2, hp⟩ := h rfl
    rw [if_neg (by decide : ¬ fB true = nI 0), if_neg (by decide : ¬ fB true = nI 0)]
    by_cases hk : -nI 1 ≤ a2
    · rw [if_pos hk, if_pos hk, isSmall_1 d1, isSmall_6 d2, bd_some, bd_some]
      by_cases hs : pcn w 9 ≤ 5
      · rw [decide_eq_true hs, if_neg (by decide : ¬ fB true = nI 0), if_neg (by decide : ¬ fB true = nI 0), inversions_1 d1, plainOf_6 d2, bd_some, bd_some]
        exact dream_L d1 1024 fu fu 0 0 s1 o2 rfl (by rw [fu_s]; omega) (by rw [fu_s]; omega) (Nat.le_refl _)
      · rw [decide_eq_false hs, if_pos fB_f, if_pos fB_f]
        exact ⟨(-nI 3, q1, s1), (-nI 3, q2, o2), rfl, rfl, rfl⟩
    · rw [if_neg hk, if_neg hk]
      exact ⟨(-nI 2, q1, s1), (-nI 2, q2, o2), rfl, rfl, rfl⟩
