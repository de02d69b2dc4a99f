/-! ===== numbers told are read alike ===== -/
theorem sh_d : ∀ d, d < 10 → ((nI d &&& nI 31).toBitVec.smod 32).toNat = d ∧ nI 1 <<< (nI d &&& nI 31) = nI (2 ^ d) := by decide +kernel
theorem mk_get (m : Nat) (hm : m < 1024) (d : Nat) (hd : d < 10) : ((nI m >>> (nI d &&& nI 31)) &&& nI 1) = if m.testBit d then nI 1 else nI 0 := by
  rw [pk_shrN (by omega) _ d (sh_d d hd).1, pk_andN (Nat.lt_of_le_of_lt (Nat.div_le_self _ _) (by omega)) 1 (by decide)]
  have := Nat.toNat_testBit m d
  cases h : m.testBit d with
  | false => rw [h] at this; rw [Nat.pow_one, ← this]; rfl
  | true => rw [h] at this; rw [Nat.pow_one, ← this]; rfl
theorem mk_put (m : Nat) (hm : m < 1024) (d : Nat) (hd : d < 10) : nI m ||| (nI 1 <<< (nI d &&& nI 31)) = nI (m ||| 2 ^ d) := by
  rw [(sh_d d hd).2, i_or]
theorem or_lt {m d : Nat} (hm : m < 1024) (hd : d < 10) : m ||| 2 ^ d < 1024 := Nat.or_lt_two_pow (n := 10) hm (Nat.pow_lt_pow_right (by decide) hd)
theorem or_bit {m d e : Nat} : (m ||| 2 ^ d).testBit e = (m.testBit e || decide (d = e)) := by rw [Nat.testBit_or, Nat.testBit_two_pow]
/-- whether k digits of r, the last one first, are of 1 to n, unlike each other and unlike those of m -/
def gd (n : Nat) : Nat → Nat → Nat → Bool
  | 0, _, _ => true
  | k + 1, m, r => (decide (1 ≤ r % 10) && decide (r % 10 ≤ n) && !m.testBit (r % 10)) && gd n k (m ||| 2 ^ (r % 10)) (r / 10)
theorem gd_in {n : Nat} : ∀ (k m r : Nat), gd n k m r = true → ∀ i, i < k → 1 ≤ r / 10 ^ i % 10 ∧ r / 10 ^ i % 10 ≤ n ∧ m.testBit (r / 10 ^ i % 10) = false := by
  intro k
  induction k with
  | zero => intro m r _ i hi; omega
  | succ k ih =>
    intro m r h i hi
    simp only [gd, Bool.and_eq_true, decide_eq_true_eq, Bool.not_eq_true'] at h
    obtain ⟨⟨⟨h1, h2⟩, h3⟩, h4⟩ := h
    cases i with
    | zero => simp only [Nat.pow_zero, Nat.div_one]; exact ⟨h1, h2, h3⟩
    | succ i =>
      have := ih _ _ h4 i (by omega)
      rw [Nat.pow_succ, Nat.mul_comm, ← Nat.div_div_eq_div_mul]
      refine ⟨this.1, this.2.1, ?_⟩
      have h5 := this.2.2
      rw [or_bit, Bool.or_eq_false_iff] at h5
      exact h5.1
theorem gd_ne {n : Nat} : ∀ (k m r : Nat), gd n k m r = true → ∀ i j, i < j → j < k → r / 10 ^ i % 10 ≠ r / 10 ^ j % 10 := by
  intro k
  induction k with
  | zero => intro m r _ i j _ hj; omega
  | succ k ih =>
    intro m r h i j hij hj
    have h0 := h
    simp only [gd, Bool.and_eq_true, decide_eq_true_eq, Bool.not_eq_true'] at h
    obtain ⟨⟨⟨h1, h2⟩, h3⟩, h4⟩ := h
    obtain ⟨j, rfl⟩ : ∃ q, j = q + 1 := ⟨j - 1, by omega⟩
    cases i with
    | zero =>
      have h5 := (gd_in k _ _ h4 j (by omega)).2.2
      rw [or_bit, Bool.or_eq_false_iff, decide_eq_false_iff_not] at h5
      rw [Nat.pow_zero, Nat.div_one, Nat.pow_succ, Nat.mul_comm, ← Nat.div_div_eq_div_mul]
      exact h5.2
    | succ i =>
      have h5 := ih _ _ h4 i j (by omega) (by omega)
      rw [Nat.pow_succ, Nat.mul_comm, ← Nat.div_div_eq_div_mul, Nat.pow_succ, Nat.mul_comm (10 ^ j), ← Nat.div_div_eq_div_mul]
      exact h5
theorem i_div10 {r : Nat} (h : r < 2 ^ 31) : nI r / nI 10 = nI (r / 10) := pk_div h (by decide) (by decide)
theorem i_mod10 {r : Nat} (h : r < 2 ^ 31) : nI r - nI (r / 10) * nI 10 = nI (r % 10) := by rw [← i_div10 h]; exact pk_rem h (by decide) (by decide)
def fB (b : Bool) : Int32 := if b then nI 1 else nI 0
theorem fB_t : fB true = nI 1 := rfl
theorem fB_f : fB false = nI 0 := rfl
/-- the digits of r at places 1 to k -/
def dgs (r k : Nat) (j : Nat) : Nat := r / 10 ^ (k - j) % 10
theorem read_L50 {p1 : Int32} {n : Nat} (hn : n ≤ 9) : ∀ (k fl m r : Nat) (row : Nat → Int32), k ≤ n → k < fl → m < 1024 → r < 2 ^ 31 → ∃ row', fX1_read_L50 p1 fl row (nI n) (nI m) (nI r) (nI k) = some (fB (gd n k m r), row') ∧ (gd n k m r = true → ∀ j, row' j = if 1 ≤ j ∧ j ≤ k then nI (dgs r k j) else row j) := by
  intro k
  induction k with
  | zero =>
    intro fl m r row hk hf hm hr
    obtain ⟨fl, rfl⟩ : ∃ q, fl = q + 1 := ⟨fl - 1, by omega⟩
    refine ⟨row, ?_, fun _ j => by rw [if_neg (by omega)]⟩
    simp only [fX1_read_L50, i_lit]
    simp (disch := omega) only [nI_ltI]
    rw [if_pos (by omega)]
    rfl
  | succ k ih =>
    intro fl m r row hk hf hm hr
    obtain ⟨fl, rfl⟩ : ∃ q, fl = q + 1 := ⟨fl - 1, by omega⟩
    have hd : r % 10 < 10 := Nat.mod_lt _ (by decide)
    simp only [fX1_read_L50, i_lit, nmE]
    simp (disch := omega) only [i_div10, i_mod10, nI_ltI, pI_at, nI_dec, mk_get m hm (r % 10) hd, mk_put m hm (r % 10) hd]
    rw [if_neg (by omega)]
    by_cases h1 : r % 10 < 1
    · refine ⟨row, ?_, fun h => ?_⟩
      · rw [if_pos h1]
        have : gd n (k + 1) m r = false := by simp only [gd]; rw [decide_eq_false (by omega)]; rfl
        rw [this]; rfl
      · simp only [gd, Bool.and_eq_true, decide_eq_true_eq] at h; omega
    · rw [if_neg h1]
      by_cases h2 : n < r % 10
      · refine ⟨row, ?_, fun h => ?_⟩
        · rw [if_pos h2]
          have : gd n (k + 1) m r = false := by simp only [gd]; rw [decide_eq_false (by omega : ¬ r % 10 ≤ n)]; simp
          rw [this]; rfl
        · simp only [gd, Bool.and_eq_true, decide_eq_true_eq] at h; omega
      · rw [if_neg h2]
        by_cases h3 : m.testBit (r % 10) = true
        · refine ⟨row, ?_, fun h => ?_⟩
          · rw [if_pos h3, if_pos rfl]
            have : gd n (k + 1) m r = false := by simp only [gd, h3]; simp
            rw [this]; rfl
          · simp only [gd, Bool.and_eq_true, Bool.not_eq_true', h3] at h; simp at h
        · rw [if_neg h3, if_neg (by decide : ¬ nI 0 = nI 1)]
          obtain ⟨row', e1, e2⟩ := ih fl (m ||| 2 ^ (r % 10)) (r / 10) (upd row (k + 1) (nI (r % 10))) (by omega) (by omega) (or_lt hm hd) (by omega)
          have hg : gd n (k + 1) m r = gd n k (m ||| 2 ^ (r % 10)) (r / 10) := by
            have h3' : m.testBit (r % 10) = false := by simpa using h3
            simp only [gd, h3', decide_eq_true (by omega : 1 ≤ r % 10), decide_eq_true (by omega : r % 10 ≤ n), Bool.not_false, Bool.and_true, Bool.true_and]
          refine ⟨row', ?_, fun h j => ?_⟩
          · rw [hg]; exact e1
          · rw [hg] at h
            rw [e2 h j]
            by_cases hj : 1 ≤ j ∧ j ≤ k
            · rw [if_pos hj, if_pos (by omega)]
              unfold dgs
              rw [show k + 1 - j = (k - j) + 1 by omega, Nat.pow_succ, Nat.mul_comm, ← Nat.div_div_eq_div_mul]
            · rw [if_neg hj]
              by_cases hj2 : j = k + 1
              · rw [if_pos (by omega), hj2, upd_s]; unfold dgs; rw [Nat.sub_self, Nat.pow_zero, Nat.div_one]
              · rw [if_neg (by omega), upd_n hj2]
theorem lays_L121 {p0 : Int32} : ∀ (q fl k : Nat) (b : Bool) (row : Nat → Int32), k + q = 10 → 1 ≤ k → q < fl → ∃ row', fX6_lays_L121 p0 fl row (fB b) (nI k) = some (fB b, row') ∧ ∀ j, row' j = if k ≤ j ∧ j ≤ 9 then nI j else row j := by
  intro q
  induction q with
  | zero =>
    intro fl k b row hk h1 hf
    obtain ⟨fl, rfl⟩ : ∃ q, fl = q + 1 := ⟨fl - 1, by omega⟩
    refine ⟨row, ?_, fun j => by rw [if_neg (by omega)]⟩
    simp only [fX6_lays_L121, i_lit]
    simp (disch := omega) only [nI_ltI]
    rw [if_pos (by omega)]
    cases b
    · exact bz_0 _
    · exact bz_1 _
  | succ q ih =>
    intro fl k b row hk h1 hf
    obtain ⟨fl, rfl⟩ : ∃ q, fl = q + 1 := ⟨fl - 1, by omega⟩
    simp only [fX6_lays_L121, i_lit, nmE]
    simp (disch := omega) only [nI_ltI, pI_at, nI_add]
    rw [if_neg (by omega)]
    obtain ⟨row', e1, e2⟩ := ih fl (k + 1) b (upd row k (nI k)) (by omega) (by omega) (by omega)
    refine ⟨row', e1, fun j => ?_⟩
    rw [e2 j]
    by_cases hj : k + 1 ≤ j ∧ j ≤ 9
    · rw [if_pos hj, if_pos (by omega)]
    · rw [if_neg hj]
      by_cases hj2 : j = k
      · rw [if_pos (by omega), hj2, upd_s]
      · rw [if_neg (by omega), upd_n hj2]
theorem within_6 (a b c : Int32) : fX6_within a b c = some (if a < b ∨ c < a then nI 0 else nI 1) := by
  simp only [fX6_within, i_lit]
  by_cases h1 : a < b
  · rw [if_pos h1, if_pos (Or.inl h1)]
  · rw [if_neg h1]
    by_cases h2 : c < a
    · rw [if_pos h2, if_pos (Or.inr h2)]
    · rw [if_neg h2, if_neg (by intro h; rcases h with h | h; exact h1 h; exact h2 h)]
theorem lays_L44 {p0 : Int32} {n : Nat} (hn : n ≤ 9) : ∀ (k fl m r : Nat) (g : Bool) (row : Nat → Int32), k ≤ n → k < fl → m < 1024 → r < 2 ^ 31 → ∃ row', fX6_lays_L44 p0 fl row (nI n) (fB g) (nI m) (nI r) (nI k) = fX6_lays_L121 p0 fu row' (fB (g && gd n k m r)) (nI (n + 1)) ∧ ∀ j, row' j = if 1 ≤ j ∧ j ≤ k then nI (dgs r k j) else row j := by
  intro k
  induction k with
  | zero =>
    intro fl m r g row hk hf hm hr
    obtain ⟨fl, rfl⟩ : ∃ q, fl = q + 1 := ⟨fl - 1, by omega⟩
    refine ⟨row, ?_, fun j => by rw [if_neg (by omega)]⟩
    simp only [fX6_lays_L44, i_lit, nmE]
    simp (disch := omega) only [nI_leI, nI_add]
    rw [if_pos (by omega)]
    simp only [gd, Bool.and_true]
  | succ k ih =>
    intro fl m r g row hk hf hm hr
    obtain ⟨fl, rfl⟩ : ∃ q, fl = q + 1 := ⟨fl - 1, by omega⟩
    have hd : r % 10 < 10 := Nat.mod_lt _ (by decide)
    -- what a round does to the row
    have hrow : ∀ (row' : Nat → Int32), (∀ j, row' j = if 1 ≤ j ∧ j ≤ k then nI (dgs (r / 10) k j) else upd row (k + 1) (nI (r % 10)) j) → ∀ j, row' j = if 1 ≤ j ∧ j ≤ k + 1 then nI (dgs r (k + 1) j) else row j := by
      intro row' e2 j
      rw [e2 j]
      by_cases hj : 1 ≤ j ∧ j ≤ k
      · rw [if_pos hj, if_pos (by omega)]
        unfold dgs
        rw [show k + 1 - j = (k - j) + 1 by omega, Nat.pow_succ, Nat.mul_comm, ← Nat.div_div_eq_div_mul]
      · rw [if_neg hj]
        by_cases hj2 : j = k + 1
        · rw [if_pos (by omega), hj2, upd_s]; unfold dgs; rw [Nat.sub_self, Nat.pow_zero, Nat.div_one]
        · rw [if_neg (by omega), upd_n hj2]
    simp only [fX6_lays_L44, fX6_lays_b97, fX6_lays_b98, i_lit, nmE, within_6, bd_some]
    simp (disch := omega) only [i_div10, i_mod10, nI_leI, nI_ltI, pI_at, gI_at, nI_dec, upd_s, mk_get m hm (r % 10) hd, mk_put m hm (r % 10) hd]
    rw [if_neg (by omega)]
    have go : ∀ (g' : Bool), ((g && gd n (k + 1) m r) = (g' && gd n k (m ||| 2 ^ (r % 10)) (r / 10))) → ∃ row', fX6_lays_L44 p0 fl (upd row (k + 1) (nI (r % 10))) (nI n) (fB g') (nI (m ||| 2 ^ (r % 10))) (nI (r / 10)) (nI (k + 1 - 1)) = fX6_lays_L121 p0 fu row' (fB (g && gd n (k + 1) m r)) (nI (n + 1)) ∧ ∀ j, row' j = if 1 ≤ j ∧ j ≤ k + 1 then nI (dgs r (k + 1) j) else row j := by
      intro g' hg
      obtain ⟨row', e1, e2⟩ := ih fl (m ||| 2 ^ (r % 10)) (r / 10) g' (upd row (k + 1) (nI (r % 10))) (by omega) (by omega) (or_lt hm hd) (by omega)
      exact ⟨row', by rw [hg]; exact e1, hrow row' e2⟩
    cases g with
    | false =>
      rw [if_pos fB_f]
      exact go false (by simp)
    | true =>
      rw [if_neg (by decide : ¬ fB true = nI 0)]
      by_cases h1 : r % 10 < 1 ∨ n < r % 10
      · rw [if_pos h1, if_pos rfl]
        refine go false ?_
        simp only [gd, Bool.true_and, Bool.false_and]
        rcases h1 with h1 | h1
        · rw [decide_eq_false (by omega : ¬ 1 ≤ r % 10)]; simp
        · rw [decide_eq_false (by omega : ¬ r % 10 ≤ n)]; simp
      · rw [if_neg h1, if_neg (by decide : ¬ nI 1 = nI 0)]
        cases h3 : m.testBit (r % 10) with
        | true =>
          rw [if_pos rfl, if_neg (by decide : ¬ nI 1 = nI 0)]
          refine go false ?_
          simp only [gd, h3]; simp
        | false =>
          rw [if_neg (by decide : ¬ false = true), if_pos rfl]
          refine go true ?_
          simp only [gd, h3, decide_eq_true (by omega : 1 ≤ r % 10), decide_eq_true (by omega : r % 10 ≤ n), Bool.not_false, Bool.and_true, Bool.true_and]
/-- how many digits -/
def nd : Nat → Nat → Nat
  | 0, _ => 0
  | f + 1, r => if r = 0 then 0 else nd f (r / 10) + 1
theorem nd_lt : ∀ (f r : Nat), r < 10 ^ f → r < 10 ^ nd f r := by
  intro f
  induction f with
  | zero => intro r h; simpa [nd] using h
  | succ f ih =>
    intro r h
    simp only [nd]
    by_cases h0 : r = 0
    · rw [if_pos h0, h0]; decide
    · rw [if_neg h0]
      have h1 := ih (r / 10) (by rw [Nat.pow_succ] at h; omega)
      rw [Nat.pow_succ]
      omega
theorem nd_le : ∀ (f g r : Nat), r < 10 ^ g → g ≤ f → nd f r ≤ g := by
  intro f
  induction f with
  | zero => intro g r _ _; simp [nd]
  | succ f ih =>
    intro g r h hg
    simp only [nd]
    by_cases h0 : r = 0
    · rw [if_pos h0]; omega
    · rw [if_neg h0]
      cases g with
      | zero => simp at h; omega
      | succ g =>
        have h1 := ih g (r / 10) (by rw [Nat.pow_succ] at h; omega) (by omega)
        omega
theorem nd_pos {f r : Nat} (hf : 0 < f) (h : 0 < r) : 1 ≤ nd f r := by
  obtain ⟨f, rfl⟩ : ∃ q, f = q + 1 := ⟨f - 1, by omega⟩
  simp only [nd]
  rw [if_neg (by omega)]
  omega
theorem lays_L4 {p0 : Int32} {k1 : Nat → Int32} : ∀ (f fl c r : Nat), r < 10 ^ f → r < 2 ^ 31 → f < fl → c + nd f r ≤ 20 → fX6_lays_L4 p0 fl k1 (nI c) (nI r) = bd (fX6_within (nI (c + nd f r)) (nI 1) (nI 9)) (fun r12 => (if r12 = nI 0 then fX6_lays_L44 p0 fu k1 (nI (c + nd f r)) r12 (nI 0) p0 (nI 0) else fX6_lays_L44 p0 fu k1 (nI (c + nd f r)) r12 (nI 0) p0 (nI (c + nd f r)))) := by
  intro f
  induction f with
  | zero =>
    intro fl c r h hr hf hc
    obtain ⟨fl, rfl⟩ : ∃ q, fl = q + 1 := ⟨fl - 1, by omega⟩
    have h0 : r = 0 := by simp at h; omega
    subst h0
    simp only [fX6_lays_L4, i_lit]
    rw [if_pos (by decide : nI 0 ≤ nI 0)]
    rfl
  | succ f ih =>
    intro fl c r h hr hf hc
    obtain ⟨fl, rfl⟩ : ∃ q, fl = q + 1 := ⟨fl - 1, by omega⟩
    simp only [fX6_lays_L4, i_lit, nmE]
    by_cases h0 : r = 0
    · subst h0
      rw [if_pos (by decide : nI 0 ≤ nI 0)]
      simp only [nd, if_true]
      rfl
    · simp (disch := omega) only [nI_leI, nI_add, i_div10]
      rw [if_neg (by omega)]
      simp only [nd, if_neg h0] at hc ⊢
      rw [ih fl (c + 1) (r / 10) (by rw [Nat.pow_succ] at h; omega) (by omega) (by omega) (by omega)]
      rw [show c + 1 + nd f (r / 10) = c + (nd f (r / 10) + 1) by omega]
theorem read_L17 {p1 : Int32} {row : Nat → Int32} : ∀ (f fl c r : Nat), r < 10 ^ f → r < 2 ^ 31 → f < fl → c + nd f r ≤ 9 → fX1_read_L17 p1 fl row (nI c) (nI r) = fX1_read_b38 p1 row (nI (c + nd f r)) := by
  intro f
  induction f with
  | zero =>
    intro fl c r h hr hf hc
    obtain ⟨fl, rfl⟩ : ∃ q, fl = q + 1 := ⟨fl - 1, by omega⟩
    have h0 : r = 0 := by simp at h; omega
    subst h0
    simp only [fX1_read_L17, i_lit]
    rw [if_pos (by decide : nI 0 ≤ nI 0)]
    rfl
  | succ f ih =>
    intro fl c r h hr hf hc
    obtain ⟨fl, rfl⟩ : ∃ q, fl = q + 1 := ⟨fl - 1, by omega⟩
    simp only [fX1_read_L17, i_lit, nmE]
    by_cases h0 : r = 0
    · subst h0
      rw [if_pos (by decide : nI 0 ≤ nI 0)]
      simp only [nd, if_true]
      rfl
    · simp (disch := omega) only [nI_leI, nI_add, i_div10]
      simp only [nd, if_neg h0] at hc ⊢
      rw [if_neg (by omega)]
      rw [if_neg (by omega)]
      rw [ih fl (c + 1) (r / 10) (by rw [Nat.pow_succ] at h; omega) (by omega) (by omega) (by omega)]
      rw [show c + 1 + nd f (r / 10) = c + (nd f (r / 10) + 1) by omega]
theorem stay_L : ∀ (q fl k : Nat) (row : Nat → Int32), k + q = 10 → 1 ≤ k → q < fl → ∃ row', fX1_stayInPlace_L2 fl row (nI k) = some row' ∧ ∀ j, row' j = if k ≤ j ∧ j ≤ 9 then nI j else row j := by
  intro q
  induction q with
  | zero =>
    intro fl k row hk h1 hf
    obtain ⟨fl, rfl⟩ : ∃ q, fl = q + 1 := ⟨fl - 1, by omega⟩
    refine ⟨row, ?_, fun j => by rw [if_neg (by omega)]⟩
    simp only [fX1_stayInPlace_L2, i_lit]
    simp (disch := omega) only [nI_ltI]
    rw [if_pos (by omega)]
  | succ q ih =>
    intro fl k row hk h1 hf
    obtain ⟨fl, rfl⟩ : ∃ q, fl = q + 1 := ⟨fl - 1, by omega⟩
    simp only [fX1_stayInPlace_L2, i_lit, nmE]
    simp (disch := omega) only [nI_ltI, pI_at, nI_add]
    rw [if_neg (by omega)]
    obtain ⟨row', e1, e2⟩ := ih fl (k + 1) (upd row k (nI k)) (by omega) (by omega) (by omega)
    refine ⟨row', e1, fun j => ?_⟩
    rw [e2 j]
    by_cases hj : k + 1 ≤ j ∧ j ≤ 9
    · rw [if_pos hj, if_pos (by omega)]
    · rw [if_neg hj]
      by_cases hj2 : j = k
      · rw [if_pos (by omega), hj2, upd_s]
      · rw [if_neg (by omega), upd_n hj2]
theorem stay_1 (row : Nat → Int32) : ∃ row', fX1_stayInPlace row = some row' ∧ ∀ j, row' j = if 1 ≤ j ∧ j ≤ 9 then nI j else row j := stay_L 9 fu 1 row rfl (by decide) (by rw [fu_s]; omega)
/-- nine unlike digits of 1 to 9 are at most 987654321 -/
theorem gd_max {t : Nat} (ht : t < 10 ^ 9) (h : gd 9 9 0 t = true) : t ≤ 987654321 := by
  have hin := gd_in 9 0 t h
  have hne := gd_ne 9 0 t h
  rcases Nat.lt_or_ge 987654321 t with hlt | hge
  · exfalso
    simp only [Nat.reducePow] at ht
    have b8 : t / 100000000 % 10 = 9 := by
      clear hin hne
      omega
    have b7 : t / 10000000 % 10 = 8 := by
      have n8 : t / 10000000 % 10 ≠ t / 100000000 % 10 := by have := hne 7 8 (by decide) (by decide); simpa only [Nat.reducePow] using this
      clear hin hne
      omega
    have b6 : t / 1000000 % 10 = 7 := by
      have n8 : t / 1000000 % 10 ≠ t / 100000000 % 10 := by have := hne 6 8 (by decide) (by decide); simpa only [Nat.reducePow] using this
      have n7 : t / 1000000 % 10 ≠ t / 10000000 % 10 := by have := hne 6 7 (by decide) (by decide); simpa only [Nat.reducePow] using this
      clear hin hne
      omega
    have b5 : t / 100000 % 10 = 6 := by
      have n8 : t / 100000 % 10 ≠ t / 100000000 % 10 := by have := hne 5 8 (by decide) (by decide); simpa only [Nat.reducePow] using this
      have n7 : t / 100000 % 10 ≠ t / 10000000 % 10 := by have := hne 5 7 (by decide) (by decide); simpa only [Nat.reducePow] using this
      have n6 : t / 100000 % 10 ≠ t / 1000000 % 10 := by have := hne 5 6 (by decide) (by decide); simpa only [Nat.reducePow] using this
      clear hin hne
      omega
    have b4 : t / 10000 % 10 = 5 := by
      have n8 : t / 10000 % 10 ≠ t / 100000000 % 10 := by have := hne 4 8 (by decide) (by decide); simpa only [Nat.reducePow] using this
      have n7 : t / 10000 % 10 ≠ t / 10000000 % 10 := by have := hne 4 7 (by decide) (by decide); simpa only [Nat.reducePow] using this
      have n6 : t / 10000 % 10 ≠ t / 1000000 % 10 := by have := hne 4 6 (by decide) (by decide); simpa only [Nat.reducePow] using this
      have n5 : t / 10000 % 10 ≠ t / 100000 % 10 := by have := hne 4 5 (by decide) (by decide); simpa only [Nat.reducePow] using this
      clear hin hne
      omega
    have b3 : t / 1000 % 10 = 4 := by
      have n8 : t / 1000 % 10 ≠ t / 100000000 % 10 := by have := hne 3 8 (by decide) (by decide); simpa only [Nat.reducePow] using this
      have n7 : t / 1000 % 10 ≠ t / 10000000 % 10 := by have := hne 3 7 (by decide) (by decide); simpa only [Nat.reducePow] using this
      have n6 : t / 1000 % 10 ≠ t / 1000000 % 10 := by have := hne 3 6 (by decide) (by decide); simpa only [Nat.reducePow] using this
      have n5 : t / 1000 % 10 ≠ t / 100000 % 10 := by have := hne 3 5 (by decide) (by decide); simpa only [Nat.reducePow] using this
      have n4 : t / 1000 % 10 ≠ t / 10000 % 10 := by have := hne 3 4 (by decide) (by decide); simpa only [Nat.reducePow] using this
      clear hin hne
      omega
    have b2 : t / 100 % 10 = 3 := by
      have n8 : t / 100 % 10 ≠ t / 100000000 % 10 := by have := hne 2 8 (by decide) (by decide); simpa only [Nat.reducePow] using this
      have n7 : t / 100 % 10 ≠ t / 10000000 % 10 := by have := hne 2 7 (by decide) (by decide); simpa only [Nat.reducePow] using this
      have n6 : t / 100 % 10 ≠ t / 1000000 % 10 := by have := hne 2 6 (by decide) (by decide); simpa only [Nat.reducePow] using this
      have n5 : t / 100 % 10 ≠ t / 100000 % 10 := by have := hne 2 5 (by decide) (by decide); simpa only [Nat.reducePow] using this
      have n4 : t / 100 % 10 ≠ t / 10000 % 10 := by have := hne 2 4 (by decide) (by decide); simpa only [Nat.reducePow] using this
      have n3 : t / 100 % 10 ≠ t / 1000 % 10 := by have := hne 2 3 (by decide) (by decide); simpa only [Nat.reducePow] using this
      clear hin hne
      omega
    have b1 : t / 10 % 10 = 2 := by
      have n8 : t / 10 % 10 ≠ t / 100000000 % 10 := by have := hne 1 8 (by decide) (by decide); simpa only [Nat.reducePow] using this
      have n7 : t / 10 % 10 ≠ t / 10000000 % 10 := by have := hne 1 7 (by decide) (by decide); simpa only [Nat.reducePow] using this
      have n6 : t / 10 % 10 ≠ t / 1000000 % 10 := by have := hne 1 6 (by decide) (by decide); simpa only [Nat.reducePow] using this
      have n5 : t / 10 % 10 ≠ t / 100000 % 10 := by have := hne 1 5 (by decide) (by decide); simpa only [Nat.reducePow] using this
      have n4 : t / 10 % 10 ≠ t / 10000 % 10 := by have := hne 1 4 (by decide) (by decide); simpa only [Nat.reducePow] using this
      have n3 : t / 10 % 10 ≠ t / 1000 % 10 := by have := hne 1 3 (by decide) (by decide); simpa only [Nat.reducePow] using this
      have n2 : t / 10 % 10 ≠ t / 100 % 10 := by have := hne 1 2 (by decide) (by decide); simpa only [Nat.reducePow] using this
      clear hin hne
      omega
    have a0 : 1 ≤ t % 10 := by have := (hin 0 (by decide)).1; simpa only [Nat.pow_zero, Nat.div_one] using this
    have n8 : t % 10 ≠ t / 100000000 % 10 := by have := hne 0 8 (by decide) (by decide); simpa only [Nat.reducePow, Nat.pow_zero, Nat.div_one] using this
    have n7 : t % 10 ≠ t / 10000000 % 10 := by have := hne 0 7 (by decide) (by decide); simpa only [Nat.reducePow, Nat.pow_zero, Nat.div_one] using this
    have n6 : t % 10 ≠ t / 1000000 % 10 := by have := hne 0 6 (by decide) (by decide); simpa only [Nat.reducePow, Nat.pow_zero, Nat.div_one] using this
    have n5 : t % 10 ≠ t / 100000 % 10 := by have := hne 0 5 (by decide) (by decide); simpa only [Nat.reducePow, Nat.pow_zero, Nat.div_one] using this
    have n4 : t % 10 ≠ t / 10000 % 10 := by have := hne 0 4 (by decide) (by decide); simpa only [Nat.reducePow, Nat.pow_zero, Nat.div_one] using this
    have n3 : t % 10 ≠ t / 1000 % 10 := by have := hne 0 3 (by decide) (by decide); simpa only [Nat.reducePow, Nat.pow_zero, Nat.div_one] using this
    have n2 : t % 10 ≠ t / 100 % 10 := by have := hne 0 2 (by decide) (by decide); simpa only [Nat.reducePow, Nat.pow_zero, Nat.div_one] using this
    have n1 : t % 10 ≠ t / 10 % 10 := by have := hne 0 1 (by decide) (by decide); simpa only [Nat.reducePow, Nat.pow_zero, Nat.div_one] using this
    clear hin hne
    omega
  · exact hge
/-- unlike digits -/
def Pm (w : Nat → Nat) : Prop := ∀ i j, 1 ≤ i → i ≤ 9 → 1 ≤ j → j ≤ 9 → w i = w j → i = j
theorem pm_of {t n : Nat} (hn : n ≤ 9) (h : gd n n 0 t = true) {row : Nat → Int32} (hr : ∀ j, 1 ≤ j → j ≤ 9 → row j = if j ≤ n then nI (dgs t n j) else nI j) : Dg row (fun j => if j ≤ n then dgs t n j else j) ∧ Pm (fun j => if j ≤ n then dgs t n j else j) := by
  have hin := gd_in n 0 t h
  have hne := gd_ne n 0 t h
  constructor
  · intro k h1 h9
    rw [hr k h1 h9]
    by_cases hk : k ≤ n
    · have := hin (n - k) (by omega)
      rw [if_pos hk]
      show nI (dgs t n k) = nI (if k ≤ n then dgs t n k else k) ∧ 1 ≤ (if k ≤ n then dgs t n k else k) ∧ (if k ≤ n then dgs t n k else k) ≤ 9
      rw [if_pos hk]
      unfold dgs
      exact ⟨rfl, this.1, by omega⟩
    · rw [if_neg hk]
      show nI k = nI (if k ≤ n then dgs t n k else k) ∧ 1 ≤ (if k ≤ n then dgs t n k else k) ∧ (if k ≤ n then dgs t n k else k) ≤ 9
      rw [if_neg hk]
      exact ⟨rfl, h1, h9⟩
  · intro i j hi hi9 hj hj9 e
    simp only at e
    by_cases h1 : i ≤ n
    · rw [if_pos h1] at e
      by_cases h2 : j ≤ n
      · rw [if_pos h2] at e
        unfold dgs at e
        rcases Nat.lt_trichotomy i j with q | q | q
        · exact absurd e.symm (hne (n - j) (n - i) (by omega) (by omega))
        · exact q
        · exact absurd e (hne (n - i) (n - j) (by omega) (by omega))
      · rw [if_neg h2] at e
        have := hin (n - i) (by omega)
        unfold dgs at e
        omega
    · rw [if_neg h1] at e
      by_cases h2 : j ≤ n
      · rw [if_pos h2] at e
        have := hin (n - j) (by omega)
        unfold dgs at e
        omega
      · rw [if_neg h2] at e; exact e
theorem fu_pos : 0 < fu := by rw [fu_s]; omega
theorem lays_L44_0 (w : Int32) (row2 : Nat → Int32) (n : Nat) : ∀ fl, 0 < fl → fX6_lays_L44 w fl row2 (nI n) (nI 0) (nI 0) w (nI 0) = fX6_lays_L121 w fu row2 (nI 0) (nI (n + 1)) := by
  intro fl hf
  obtain ⟨fl, rfl⟩ : ∃ q, fl = q + 1 := ⟨fl - 1, by omega⟩
  simp only [fX6_lays_L44, i_lit, nmE]
  rw [if_pos (by decide : nI 0 ≤ nI 0), nI_add]
theorem lays_L4_0 {w : Int32} (hw : w ≤ nI 0) (row2 : Nat → Int32) : ∀ fl, 0 < fl → fX6_lays_L4 w fl row2 (nI 0) w = fX6_lays_L44 w fu row2 (nI 0) (nI 0) (nI 0) w (nI 0) := by
  intro fl hf
  obtain ⟨fl, rfl⟩ : ∃ q, fl = q + 1 := ⟨fl - 1, by omega⟩
  have hB : fX6_within (nI 0) (nI 1) (nI 9) = some (nI 0) := rfl
  simp only [fX6_lays_L4, i_lit]
  rw [if_pos hw, hB, bd_some, if_pos rfl]
theorem lays_L121_11 (w : Int32) (row2 : Nat → Int32) : ∀ fl, 0 < fl → fX6_lays_L121 w fl row2 (nI 0) (nI 11) = some (nI 0, row2) := by
  intro fl hf
  obtain ⟨fl, rfl⟩ : ∃ q, fl = q + 1 := ⟨fl - 1, by omega⟩
  simp only [fX6_lays_L121, i_lit]
  rw [if_pos (by decide : nI 9 < nI 11)]
  exact bz_0 _
theorem lays_neg (row2 : Nat → Int32) {w : Int32} (hw : w ≤ nI 0) : ∃ row', fX6_lays row2 w = some (fB false, row') := by
  obtain ⟨row', e1, -⟩ := lays_L121 (p0 := w) 9 fu 1 false row2 rfl (by decide) (by rw [fu_s]; omega)
  refine ⟨row', ?_⟩
  simp only [fX6_lays, i_lit]
  rw [lays_L4_0 hw row2 fu fu_pos, lays_L44_0 w row2 0 fu fu_pos]
  exact e1
theorem lays_ten (row2 : Nat → Int32) {t : Nat} (ht : t < 2 ^ 31) (h10 : nd 10 t = 10) : fX6_lays row2 (nI t) = some (fB false, row2) := by
  have hl := lays_L4 (p0 := nI t) (k1 := row2) 10 fu 0 t (by omega) ht (by rw [fu_s]; omega) (by omega)
  rw [Nat.zero_add] at hl
  have hB : fX6_within (nI 10) (nI 1) (nI 9) = some (nI 0) := rfl
  simp only [fX6_lays, i_lit]
  rw [hl, h10, hB, bd_some, if_pos rfl, lays_L44_0 (nI t) row2 10 fu fu_pos, lays_L121_11 (nI t) row2 fu fu_pos, fB_f]
theorem lays_nine (row2 : Nat → Int32) {t : Nat} (ht : t < 2 ^ 31) (h1 : 1 ≤ nd 10 t) (h9 : nd 10 t ≤ 9) : ∃ rB, fX6_lays row2 (nI t) = some (fB (gd (nd 10 t) (nd 10 t) 0 t), rB) ∧ ∀ j, 1 ≤ j → j ≤ 9 → rB j = if j ≤ nd 10 t then nI (dgs t (nd 10 t) j) else nI j := by
  have hl := lays_L4 (p0 := nI t) (k1 := row2) 10 fu 0 t (by omega) ht (by rw [fu_s]; omega) (by omega)
  rw [Nat.zero_add] at hl
  obtain ⟨rA, e1, e2⟩ := lays_L44 (p0 := nI t) h9 (nd 10 t) fu 0 t true row2 (Nat.le_refl _) (by rw [fu_s]; omega) (by decide) ht
  obtain ⟨rB, e3, e4⟩ := lays_L121 (p0 := nI t) (10 - (nd 10 t + 1)) fu (nd 10 t + 1) (gd (nd 10 t) (nd 10 t) 0 t) rA (by omega) (by omega) (by rw [fu_s]; omega)
  have hla : fX6_lays row2 (nI t) = fX6_lays_L4 (nI t) fu row2 (nI 0) (nI t) := by simp only [fX6_lays, i_lit]
  refine ⟨rB, ?_, fun j h1 h9 => ?_⟩
  · rw [hla, hl, within_6, bd_some]
    have hc : ¬ (nI (nd 10 t) < nI 1 ∨ nI 9 < nI (nd 10 t)) := by
      rw [nI_ltI (by omega) (by omega), nI_ltI (by omega) (by omega)]; omega
    rw [if_neg hc, if_neg (by decide : ¬ nI 1 = nI 0)]
    rw [fB_t, Bool.true_and] at e1
    exact e1.trans e3
  · rw [e4 j]
    by_cases hj : j ≤ nd 10 t
    · rw [if_neg (by omega), e2 j, if_pos ⟨h1, hj⟩, if_pos hj]
    · rw [if_pos (by omega), if_neg hj]
theorem read_nine (row1 : Nat → Int32) {t : Nat} (h1 : 1 ≤ t) (hm : t ≤ 987654321) : ∃ rD, fX1_read row1 (nI t) = some (fB (gd (nd 10 t) (nd 10 t) 0 t), rD) ∧ (gd (nd 10 t) (nd 10 t) 0 t = true → ∀ j, 1 ≤ j → j ≤ 9 → rD j = if j ≤ nd 10 t then nI (dgs t (nd 10 t) j) else nI j) := by
  have h9 := nd_le 10 9 t (by omega) (by decide)
  obtain ⟨rC, e5, e6⟩ := stay_1 row1
  obtain ⟨rD, e7, e8⟩ := read_L50 (p1 := nI t) h9 (nd 10 t) fu 0 t rC (Nat.le_refl _) (by rw [fu_s]; omega) (by decide) (by omega)
  refine ⟨rD, ?_, fun hg j h1 h9 => ?_⟩
  · have hr : fX1_read row1 (nI t) = fX1_read_L17 (nI t) fu row1 (nI 0) (nI t) := by
      simp only [fX1_read, i_lit]
      simp (disch := omega) only [nI_ltI, nI_leI]
      rw [if_neg (by omega), if_pos hm]
    rw [hr, read_L17 10 fu 0 t (by omega) (by omega) (by rw [fu_s]; omega) (by omega), Nat.zero_add]
    simp only [fX1_read_b38, e5, bd_some, i_lit]
    exact e7
  · rw [e8 hg j]
    by_cases hj : j ≤ nd 10 t
    · rw [if_pos ⟨h1, hj⟩, if_pos hj]
    · rw [if_neg (by omega), if_neg hj, e6 j, if_pos ⟨h1, h9⟩]
theorem read_big (row1 : Nat → Int32) {t : Nat} (ht : t < 2 ^ 31) (hm : ¬ t ≤ 987654321) : fX1_read row1 (nI t) = some (fB false, row1) := by
  simp only [fX1_read, i_lit, fB_f]
  simp (disch := omega) only [nI_ltI, nI_leI]
  rw [if_neg (by omega), if_neg hm]
theorem read_lays (row1 row2 : Nat → Int32) (w : Int32) : ∃ (b : Bool) (row1' row2' : Nat → Int32), fX1_read row1 w = some (fB b, row1') ∧ fX6_lays row2 w = some (fB b, row2') ∧ (b = true → ∃ p : Nat → Nat, Dg row1' p ∧ Dg row2' p ∧ Pm p) := by
  have z1 : (nI 1).toInt = 1 := by decide
  have z0 : (nI 0).toInt = 0 := by decide
  by_cases h0 : w < nI 1
  · have hw : w ≤ nI 0 := by
      rw [Int32.le_iff_toInt_le, z0]; rw [Int32.lt_iff_toInt_lt, z1] at h0
      omega
    obtain ⟨row', e1⟩ := lays_neg row2 hw
    refine ⟨false, row1, row', ?_, e1, fun h => by cases h⟩
    simp only [fX1_read, i_lit, fB_f]
    rw [if_pos h0]
  · obtain ⟨t, ht, rfl⟩ := nI_of (x := w) (fun h => h0 (by
      rw [Int32.lt_iff_toInt_lt] at h
      rw [Int32.lt_iff_toInt_lt, z1]
      have e0 : (0 : Int32).toInt = 0 := by decide
      omega))
    have h1 : 1 ≤ t := by
      rw [nI_ltI ht (by decide)] at h0
      omega
    have hnd := nd_pos (f := 10) (by decide) h1
    have hnl := nd_le 10 10 t (by omega) (by decide)
    by_cases h9 : nd 10 t ≤ 9
    · obtain ⟨rB, hL, eB⟩ := lays_nine row2 ht hnd h9
      by_cases hm : t ≤ 987654321
      · obtain ⟨rD, hR, eD⟩ := read_nine row1 h1 hm
        refine ⟨gd (nd 10 t) (nd 10 t) 0 t, rD, rB, hR, hL, fun hg => ⟨fun j => if j ≤ nd 10 t then dgs t (nd 10 t) j else j, (pm_of h9 hg (eD hg)).1, (pm_of h9 hg eB).1, (pm_of h9 hg eB).2⟩⟩
      · have hg : gd (nd 10 t) (nd 10 t) 0 t = false := by
          cases hgg : gd (nd 10 t) (nd 10 t) 0 t with
          | false => rfl
          | true =>
            exfalso
            have h2 := nd_lt 10 t (by omega)
            have hn9 : nd 10 t = 9 := by
              rcases Nat.lt_or_ge (nd 10 t) 9 with q | q
              · have h3 : 10 ^ nd 10 t ≤ 10 ^ 8 := Nat.pow_le_pow_right (by decide) (by omega)
                omega
              · omega
            rw [hn9] at hgg h2
            exact hm (gd_max h2 hgg)
        rw [hg] at hL
        exact ⟨false, row1, rB, read_big row1 ht hm, hL, fun h => by cases h⟩
    · have hm : ¬ t ≤ 987654321 := by
        intro hm
        have := nd_le 10 9 t (by omega) (by decide)
        omega
      exact ⟨false, row1, row2, read_big row1 ht hm, lays_ten row2 ht (by omega), fun h => by cases h⟩
