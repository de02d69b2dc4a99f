/-! ===== cells by exponents ===== -/
def ic (a b c d : Nat) : Nat := a + 9 * b + 72 * c + 504 * d
def xc (x i : Nat) : Nat := if i = 1 then x % 9 else if i = 2 then x / 9 % 8 else if i = 3 then x / 72 % 7 else if i = 4 then x / 504 else 0
def ir (a b c d : Nat) : Nat := ((a * 8 + b) * 7 + c) * 6 + d
def xr (x i : Nat) : Nat := if i = 1 then x / 336 else if i = 2 then x / 42 % 8 else if i = 3 then x / 6 % 7 else x % 6
theorem xc1 (x : Nat) : xc x 1 = x % 9 := rfl
theorem xc2 (x : Nat) : xc x 2 = x / 9 % 8 := rfl
theorem xc3 (x : Nat) : xc x 3 = x / 72 % 7 := rfl
theorem xc4 (x : Nat) : xc x 4 = x / 504 := rfl
theorem xr1 (x : Nat) : xr x 1 = x / 336 := rfl
theorem xr2 (x : Nat) : xr x 2 = x / 42 % 8 := rfl
theorem xr3 (x : Nat) : xr x 3 = x / 6 % 7 := rfl
theorem xr4 (x : Nat) : xr x 4 = x % 6 := rfl
theorem i_div {a d : Nat} (ha : a < 2 ^ 31) (h0 : 0 < d) (hd : d < 2 ^ 31) : nI a / nI d = nI (a / d) := pk_div ha h0 hd
theorem i_mod {a d : Nat} (ha : a < 2 ^ 31) (h0 : 0 < d) (hd : d < 2 ^ 31) : nI a - nI (a / d) * nI d = nI (a % d) := by rw [← i_div ha h0 hd]; exact pk_rem ha h0 hd
theorem exponentAt_5 {x i : Nat} (hx : x < 3024) (h1 : 1 ≤ i) (h9 : i ≤ 9) : fX5_exponentAt (nI x) (nI i) = some (nI (xc x i)) := by
  simp only [fX5_exponentAt, i_lit, xc]
  have d1 : x / 9 ≤ x := Nat.div_le_self _ _
  have d2 : x / 72 ≤ x := Nat.div_le_self _ _
  simp (disch := omega) only [nI_eq, i_div, i_mod]
  by_cases e1 : i = 1
  · rw [if_pos e1, if_pos e1]
  · rw [if_neg e1, if_neg e1]
    by_cases e2 : i = 2
    · rw [if_pos e2, if_pos e2]
    · rw [if_neg e2, if_neg e2]
      by_cases e3 : i = 3
      · rw [if_pos e3, if_pos e3]
      · rw [if_neg e3, if_neg e3]
        by_cases e4 : i = 4
        · rw [if_pos e4, if_pos e4]
        · rw [if_neg e4, if_neg e4]
theorem xc_le {x i : Nat} (hx : x < 3024) (h1 : 1 ≤ i) (h9 : i ≤ 9) : xc x i ≤ 9 - i := by
  unfold xc
  split
  · omega
  · split
    · omega
    · split
      · omega
      · split <;> omega
theorem xc_5 {x i : Nat} (h : 5 ≤ i) : xc x i = 0 := by
  unfold xc
  rw [if_neg (by omega), if_neg (by omega), if_neg (by omega), if_neg (by omega)]
theorem xc_ic {a b c d : Nat} (ha : a ≤ 8) (hb : b ≤ 7) (hc : c ≤ 6) (_hd : d ≤ 5) : xc (ic a b c d) 1 = a ∧ xc (ic a b c d) 2 = b ∧ xc (ic a b c d) 3 = c ∧ xc (ic a b c d) 4 = d := by
  rw [xc1, xc2, xc3, xc4]
  unfold ic
  omega
theorem ic_xc (x : Nat) : ic (xc x 1) (xc x 2) (xc x 3) (xc x 4) = x := by
  rw [xc1, xc2, xc3, xc4]
  unfold ic
  omega
theorem ic_lt {a b c d : Nat} (ha : a ≤ 8) (hb : b ≤ 7) (hc : c ≤ 6) (hd : d ≤ 5) : ic a b c d < 3024 := by unfold ic; omega
theorem ir_lt {a b c d : Nat} (ha : a ≤ 8) (hb : b ≤ 7) (hc : c ≤ 6) (hd : d ≤ 5) : ir a b c d < 3024 := by unfold ir; omega
theorem xr_ir {a b c d : Nat} (_ha : a ≤ 8) (hb : b ≤ 7) (hc : c ≤ 6) (hd : d ≤ 5) : xr (ir a b c d) 1 = a ∧ xr (ir a b c d) 2 = b ∧ xr (ir a b c d) 3 = c ∧ xr (ir a b c d) 4 = d := by
  rw [xr1, xr2, xr3, xr4]
  unfold ir
  omega
theorem ir_xr (x : Nat) : ir (xr x 1) (xr x 2) (xr x 3) (xr x 4) = x := by
  rw [xr1, xr2, xr3, xr4]
  unfold ir
  omega
theorem xr_le {x : Nat} (hx : x < 3024) : xr x 1 ≤ 8 ∧ xr x 2 ≤ 7 ∧ xr x 3 ≤ 6 ∧ xr x 4 ≤ 5 := by
  rw [xr1, xr2, xr3, xr4]
  omega
theorem anyNeg_5 (x y z u : Int32) : fX5_isAnyNegative x y z u = some (if x < nI 0 ∨ y < nI 0 ∨ z < nI 0 ∨ u < nI 0 then nI 1 else nI 0) := by
  simp only [fX5_isAnyNegative, i_lit]
  by_cases h1 : x < nI 0
  · rw [if_pos h1, if_pos (Or.inl h1)]
  · rw [if_neg h1]
    by_cases h2 : y < nI 0
    · rw [if_pos h2, if_pos (Or.inr (Or.inl h2))]
    · rw [if_neg h2]
      by_cases h3 : z < nI 0
      · rw [if_pos h3, if_pos (Or.inr (Or.inr (Or.inl h3)))]
      · rw [if_neg h3]
        by_cases h4 : u < nI 0
        · rw [if_neg (i_nle h4), if_pos (Or.inr (Or.inr (Or.inr h4)))]
        · have h5 : nI 0 ≤ u := by
            rw [Int32.le_iff_toInt_le]; rw [Int32.lt_iff_toInt_lt] at h4; omega
          rw [if_pos h5, if_neg (by intro h; rcases h with h | h | h | h; exact h1 h; exact h2 h; exact h3 h; exact h4 h)]
theorem cellOf_out (x y z u : Int32) (h : (x < nI 0 ∨ nI 8 < x) ∨ (y < nI 0 ∨ nI 7 < y) ∨ (z < nI 0 ∨ nI 6 < z) ∨ (u < nI 0 ∨ nI 5 < u)) : fX5_cellOf x y z u = some (-nI 1) := by
  simp only [fX5_cellOf, anyNeg_5, bd_some, i_lit]
  by_cases hn : x < nI 0 ∨ y < nI 0 ∨ z < nI 0 ∨ u < nI 0
  · rw [if_pos hn, if_neg (by decide : ¬ nI 1 = nI 0)]
  · rw [if_neg hn, if_pos rfl]
    by_cases h1 : nI 8 < x
    · rw [if_pos h1]
    · rw [if_neg h1]
      by_cases h2 : nI 7 < y
      · rw [if_pos h2]
      · rw [if_neg h2]
        by_cases h3 : nI 6 < z
        · rw [if_pos h3]
        · rw [if_neg h3]
          have h4 : nI 5 < u := by
            rcases h with (h | h) | (h | h) | (h | h) | (h | h)
            · exact absurd (Or.inl h) hn
            · exact absurd h h1
            · exact absurd (Or.inr (Or.inl h)) hn
            · exact absurd h h2
            · exact absurd (Or.inr (Or.inr (Or.inl h))) hn
            · exact absurd h h3
            · exact absurd (Or.inr (Or.inr (Or.inr h))) hn
            · exact h
          rw [if_neg (i_nle h4)]
theorem cellOf_in {a b c d : Nat} (ha : a ≤ 8) (hb : b ≤ 7) (hc : c ≤ 6) (hd : d ≤ 5) : fX5_cellOf (nI a) (nI b) (nI c) (nI d) = some (nI (ic a b c d)) := by
  simp only [fX5_cellOf, anyNeg_5, bd_some, i_lit]
  simp (disch := omega) only [nI_ltI, nI_leI, nI_mul, nI_add]
  rw [if_neg (by omega : ¬ (a < 0 ∨ b < 0 ∨ c < 0 ∨ d < 0)), if_pos rfl, if_neg (by omega), if_neg (by omega), if_neg (by omega), if_pos (by omega)]
  rfl
/-- four ints are exponents, or one isn't -/
theorem four (x y z u : Int32) : ((x < nI 0 ∨ nI 8 < x) ∨ (y < nI 0 ∨ nI 7 < y) ∨ (z < nI 0 ∨ nI 6 < z) ∨ (u < nI 0 ∨ nI 5 < u)) ∨ ∃ a b c d : Nat, a ≤ 8 ∧ b ≤ 7 ∧ c ≤ 6 ∧ d ≤ 5 ∧ x = nI a ∧ y = nI b ∧ z = nI c ∧ u = nI d := by
  rcases i_range x 0 8 (by decide) (by decide) with h | ⟨a, -, ha, rfl⟩
  · exact Or.inl (Or.inl h)
  · rcases i_range y 0 7 (by decide) (by decide) with h | ⟨b, -, hb, rfl⟩
    · exact Or.inl (Or.inr (Or.inl h))
    · rcases i_range z 0 6 (by decide) (by decide) with h | ⟨c, -, hc, rfl⟩
      · exact Or.inl (Or.inr (Or.inr (Or.inl h)))
      · rcases i_range u 0 5 (by decide) (by decide) with h | ⟨d, -, hd, rfl⟩
        · exact Or.inl (Or.inr (Or.inr (Or.inr h)))
        · exact Or.inr ⟨a, b, c, d, ha, hb, hc, hd, rfl, rfl, rfl, rfl⟩
/-- the code of a cell of the class -/
def cc_ (a b c d : Nat) (i : Nat) : Nat := if i = 1 then a else if i = 2 then b else if i = 3 then c else if i = 4 then d else 0
theorem cc_xc {a b c d : Nat} (ha : a ≤ 8) (hb : b ≤ 7) (hc : c ≤ 6) (hd : d ≤ 5) {i : Nat} (h1 : 1 ≤ i) : xc (ic a b c d) i = cc_ a b c d i := by
  obtain ⟨e1, e2, e3, e4⟩ := xc_ic ha hb hc hd
  unfold cc_
  by_cases h : i = 1
  · rw [if_pos h, h, e1]
  · rw [if_neg h]
    by_cases h : i = 2
    · rw [if_pos h, h, e2]
    · rw [if_neg h]
      by_cases h : i = 3
      · rw [if_pos h, h, e3]
      · rw [if_neg h]
        by_cases h : i = 4
        · rw [if_pos h, h, e4]
        · rw [if_neg h]; exact xc_5 (by omega)
theorem oq_ofCode (k1 k2 : Nat → Int32) (a1 a2 a3 a4 : Int32) : ∃ (r5 : Int32 × (Nat → Int32)) (r6 : Int32 × (Nat → Int32)), fX5_ofCode k1 a1 a2 a3 a4 = some r5 ∧ fX6_ofCode k2 a1 a2 a3 a4 = some r6 ∧ r5.1 = r6.1 := by
  rcases four a1 a2 a3 a4 with h | ⟨a, b, c, d, ha, hb, hc, hd, rfl, rfl, rfl, rfl⟩
  · refine ⟨(-nI 2, k1), (-nI 2, k2), ?_, ?_, rfl⟩
    · simp only [fX5_ofCode, cellOf_out _ _ _ _ h, bd_some, i_lit]
      rw [if_neg (by decide : ¬ nI 0 ≤ -nI 1)]
    · simp only [fX6_ofCode, within_6, bd_some, i_lit]
      by_cases h1 : a1 < nI 0 ∨ nI 8 < a1
      · rw [if_pos h1, if_pos rfl]
      · rw [if_neg h1, if_neg (by decide : ¬ nI 1 = nI 0)]
        by_cases h2 : a2 < nI 0 ∨ nI 7 < a2
        · rw [if_pos h2, if_pos rfl]
        · rw [if_neg h2, if_neg (by decide : ¬ nI 1 = nI 0)]
          by_cases h3 : a3 < nI 0 ∨ nI 6 < a3
          · rw [if_pos h3, if_pos rfl]
          · rw [if_neg h3, if_neg (by decide : ¬ nI 1 = nI 0)]
            have h4 : a4 < nI 0 ∨ nI 5 < a4 := by
              rcases h with h | h | h | h
              · exact absurd h h1
              · exact absurd h h2
              · exact absurd h h3
              · exact h
            rw [if_pos h4, if_pos rfl]
  · have hlt := ic_lt ha hb hc hd
    have hcc : ∀ i, 1 ≤ i → i ≤ 9 → cc_ a b c d i ≤ 9 - i := fun i h1 h9 => by rw [← cc_xc ha hb hc hd h1]; exact xc_le hlt h1 h9
    obtain ⟨r1, e1, d1⟩ := becomeOfCode_1 k1 (p1 := nI (ic a b c d)) hcc (fun i h1 h9 => by rw [← cc_xc ha hb hc hd h1]; exact exponentAt_5 hlt h1 h9)
    obtain ⟨r2, e2, d2⟩ := laysCode_6 k2 hcc (fun i h5 h9 => by rw [← cc_xc ha hb hc hd (by omega)]; exact xc_5 h5)
    have e2' : fX6_laysCode k2 (nI a) (nI b) (nI c) (nI d) = some r2 := e2
    refine ⟨(nI (plN (opm (cc_ a b c d))), r1), (nI (plN (opm (cc_ a b c d))), r2), ?_, ?_, rfl⟩
    · simp only [fX5_ofCode, cellOf_in ha hb hc hd, bd_some, i_lit, e1, plainNumber_1 d1]
      simp (disch := omega) only [nI_leI]
      rw [if_pos (Nat.zero_le _)]
    · simp only [fX6_ofCode, within_6, bd_some, i_lit, e2', plainOf_6 d2]
      simp (disch := omega) only [nI_ltI]
      rw [if_neg (by omega : ¬ (a < 0 ∨ 8 < a)), if_neg (by decide : ¬ nI 1 = nI 0), if_neg (by omega : ¬ (b < 0 ∨ 7 < b)), if_neg (by decide : ¬ nI 1 = nI 0), if_neg (by omega : ¬ (c < 0 ∨ 6 < c)), if_neg (by decide : ¬ nI 1 = nI 0), if_neg (by omega : ¬ (d < 0 ∨ 5 < d)), if_neg (by decide : ¬ nI 1 = nI 0)]
