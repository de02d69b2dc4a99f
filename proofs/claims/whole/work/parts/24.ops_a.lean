/-! ===== calls on permutations: both answer alike ===== -/
theorem oq_plain (k1 k2 : Nat → Int32) (a1 : Int32) : ∃ (r5 : Int32 × (Nat → Int32)) (r6 : Int32 × (Nat → Int32)), fX5_plain k1 a1 = some r5 ∧ fX6_plain k2 a1 = some r6 ∧ r5.1 = r6.1 := by
  obtain ⟨b, ra, rb, e1, e2, hp⟩ := read_lays k1 k2 a1
  cases b with
  | false => exact ⟨(-2, ra), (-2, rb), by simp only [fX5_plain, e1, bd_some]; rfl, by simp only [fX6_plain, e2, bd_some]; rfl, rfl⟩
  | true =>
    obtain ⟨p, h1, h2, -⟩ := hp rfl
    exact ⟨(nI (plN p), ra), (nI (plN p), rb), by simp only [fX5_plain, e1, bd_some, plainNumber_1 h1]; rfl, by simp only [fX6_plain, e2, bd_some, plainOf_6 h2]; rfl, rfl⟩
theorem oq_length (k1 k2 : Nat → Int32) (a1 : Int32) : ∃ (r5 : Int32 × (Nat → Int32)) (r6 : Int32 × (Nat → Int32)), fX5_length k1 a1 = some r5 ∧ fX6_length k2 a1 = some r6 ∧ r5.1 = r6.1 := by
  obtain ⟨b, ra, rb, e1, e2, hp⟩ := read_lays k1 k2 a1
  cases b with
  | false => exact ⟨(-2, ra), (-2, rb), by simp only [fX5_length, e1, bd_some]; rfl, by simp only [fX6_length, e2, bd_some]; rfl, rfl⟩
  | true =>
    obtain ⟨p, h1, h2, -⟩ := hp rfl
    exact ⟨(nI (ln p), ra), (nI (ln p), rb), by simp only [fX5_length, e1, bd_some, inversions_1 h1]; rfl, by simp only [fX6_length, e2, bd_some, lengthOf_6 h2]; rfl, rfl⟩
theorem oq_descents (k1 k2 : Nat → Int32) (a1 : Int32) : ∃ (r5 : Int32 × (Nat → Int32)) (r6 : Int32 × (Nat → Int32)), fX5_descents k1 a1 = some r5 ∧ fX6_descents k2 a1 = some r6 ∧ r5.1 = r6.1 := by
  obtain ⟨b, ra, rb, e1, e2, hp⟩ := read_lays k1 k2 a1
  cases b with
  | false => exact ⟨(-2, ra), (-2, rb), by simp only [fX5_descents, e1, bd_some]; rfl, by simp only [fX6_descents, e2, bd_some]; rfl, rfl⟩
  | true =>
    obtain ⟨p, h1, h2, -⟩ := hp rfl
    exact ⟨(nI (dset p), ra), (nI (dset p), rb), by simp only [fX5_descents, e1, bd_some, descentSet_1 h1]; rfl, by simp only [fX6_descents, e2, bd_some, descentsOf_6 h2]; rfl, rfl⟩
/-- an int in a small range is one of its numbers, or outside -/
theorem i_range (x : Int32) (lo hi : Nat) (hh : hi < 2 ^ 31) (hl : lo ≤ hi) : (x < nI lo ∨ nI hi < x) ∨ ∃ j, lo ≤ j ∧ j ≤ hi ∧ x = nI j := by
  by_cases h1 : x < nI lo
  · exact Or.inl (Or.inl h1)
  · by_cases h2 : nI hi < x
    · exact Or.inl (Or.inr h2)
    · right
      have a1 : ¬ x < 0 := by
        intro h
        apply h1
        rw [Int32.lt_iff_toInt_lt] at h ⊢
        rw [nI_toInt (by omega)]
        have : (0 : Int32).toInt = 0 := by decide
        omega
      obtain ⟨j, hj, rfl⟩ := nI_of a1
      rw [nI_ltI hj (by omega)] at h1
      rw [nI_ltI (by omega) hj] at h2
      exact ⟨j, by omega, by omega, rfl⟩
theorem i_nle {a b : Int32} (h : a < b) : ¬ b ≤ a := by
  rw [Int32.lt_iff_toInt_lt] at h
  rw [Int32.le_iff_toInt_le]
  omega
theorem oq_code (k1 k2 : Nat → Int32) (a1 a2 : Int32) : ∃ (r5 : Int32 × (Nat → Int32)) (r6 : Int32 × (Nat → Int32)), fX5_code k1 a1 a2 = some r5 ∧ fX6_code k2 a1 a2 = some r6 ∧ r5.1 = r6.1 := by
  obtain ⟨b, ra, rb, e1, e2, hp⟩ := read_lays k1 k2 a1
  cases b with
  | false => exact ⟨(-2, ra), (-2, rb), by simp only [fX5_code, e1, bd_some]; rfl, by simp only [fX6_code, e2, bd_some]; rfl, rfl⟩
  | true =>
    obtain ⟨p, h1, h2, -⟩ := hp rfl
    rcases i_range a2 1 9 (by decide) (by decide) with h | ⟨j, hj1, hj9, rfl⟩
    · refine ⟨(-2, ra), (-2, rb), ?_, ?_, rfl⟩
      · simp only [fX5_code, e1, bd_some, i_lit]
        rw [if_neg (by decide : ¬ fB true = nI 0)]
        rcases h with h | h
        · rw [if_pos h]
        · by_cases h3 : a2 < nI 1
          · rw [if_pos h3]
          · rw [if_neg h3, if_neg (i_nle h)]
      · simp only [fX6_code, e2, bd_some, i_lit, within_6]
        rw [if_neg (by decide : ¬ fB true = nI 0), if_pos h]; rfl
    · refine ⟨(nI (cnt p j), ra), (nI (cnt p j), rb), ?_, ?_, rfl⟩
      · simp only [fX5_code, e1, bd_some, i_lit, codeAt_1 h1 hj1 hj9]
        simp (disch := omega) only [nI_ltI, nI_leI]
        rw [if_neg (by decide : ¬ fB true = nI 0), if_neg (by omega), if_pos (by omega)]
      · simp only [fX6_code, e2, bd_some, i_lit, within_6, codeAt_6 h2 hj1 hj9]
        simp (disch := omega) only [nI_ltI]
        rw [if_neg (by decide : ¬ fB true = nI 0), if_neg (by omega : ¬ (j < 1 ∨ 9 < j)), if_neg (by decide)]
theorem oq_inverse (k1 s1 k2 s2 : Nat → Int32) (a1 : Int32) : ∃ (r5 : Int32 × (Nat → Int32) × (Nat → Int32)) (r6 : Int32 × (Nat → Int32) × (Nat → Int32)), fX5_inverse k1 s1 a1 = some r5 ∧ fX6_inverse k2 s2 a1 = some r6 ∧ r5.1 = r6.1 := by
  obtain ⟨b, ra, rb, e1, e2, hp⟩ := read_lays k1 k2 a1
  cases b with
  | false => exact ⟨(-2, ra, s1), (-2, rb, s2), by simp only [fX5_inverse, e1, bd_some]; rfl, by simp only [fX6_inverse, e2, bd_some]; rfl, rfl⟩
  | true =>
    obtain ⟨p, h1, h2, h3⟩ := hp rfl
    obtain ⟨v, hv1, hv2⟩ := inv_ex h1 h3
    obtain ⟨r1, f1, g1⟩ := inv_L h1 h3 9 fu 1 s1 rfl (by decide) (by rw [fu_s]; omega) (fun k h4 h5 => by omega)
    obtain ⟨r2, f2, g2⟩ := inv6_L (p1 := a1) h2 h3 9 fu 1 s2 rfl (by decide) (by rw [fu_s]; omega) (fun k h4 h5 => by omega)
    have d1 := inv_dg h1 hv2 g1
    have d2 := inv_dg h2 hv2 g2
    have f1' : fX1_becomeInverse s1 ra = some r1 := f1
    refine ⟨(nI (plN v), ra, r1), (nI (plN v), rb, r2), ?_, ?_, rfl⟩
    · simp only [fX5_inverse, e1, bd_some, f1', plainNumber_1 d1]; rfl
    · simp only [fX6_inverse, e2, bd_some]
      rw [if_neg (by decide : ¬ fB true = 0)]
      exact f2.trans (by rw [plainOf_6 d2]; rfl)
theorem oq_after (k1 s1 t1 k2 s2 t2 : Nat → Int32) (a1 a2 : Int32) : ∃ (r5 : Int32 × (Nat → Int32) × (Nat → Int32) × (Nat → Int32)) (r6 : Int32 × (Nat → Int32) × (Nat → Int32) × (Nat → Int32)), fX5_after k1 s1 t1 a1 a2 = some r5 ∧ fX6_after k2 s2 t2 a1 a2 = some r6 ∧ r5.1 = r6.1 := by
  obtain ⟨b, ra, rb, e1, e2, hp⟩ := read_lays k1 k2 a1
  cases b with
  | false => exact ⟨(-2, ra, s1, t1), (-2, rb, s2, t2), by simp only [fX5_after, e1, bd_some]; rfl, by simp only [fX6_after, e2, bd_some]; rfl, rfl⟩
  | true =>
    obtain ⟨p, h1, h2, h3⟩ := hp rfl
    obtain ⟨b', rc, rd, e3, e4, hp'⟩ := read_lays s1 s2 a2
    cases b' with
    | false => exact ⟨(-2, ra, rc, t1), (-2, rb, rd, t2), by simp only [fX5_after, e1, bd_some, e3]; rfl, by simp only [fX6_after, e2, bd_some, e4]; rfl, rfl⟩
    | true =>
      obtain ⟨q, h4, h5, h6⟩ := hp' rfl
      obtain ⟨r1, f1, g1⟩ := prod_L h1 h4 9 fu 1 t1 rfl (by decide) (by rw [fu_s]; omega) (fun k h4 h5 => by omega)
      obtain ⟨r2, f2, g2⟩ := prod6_L (p1 := a1) (p2 := a2) h2 h5 9 fu 1 t2 rfl (by decide) (by rw [fu_s]; omega) (fun k h4 h5 => by omega)
      have d1 := prod_dg h1 h4 g1
      have d2 := prod_dg h2 h5 g2
      have f1' : fX1_becomeProduct t1 ra rc = some r1 := f1
      refine ⟨(nI (plN (fun k => p (q k))), ra, rc, r1), (nI (plN (fun k => p (q k))), rb, rd, r2), ?_, ?_, rfl⟩
      · simp only [fX5_after, e1, bd_some, e3, f1', plainNumber_1 d1]; rfl
      · simp only [fX6_after, e2, bd_some, e4]
        rw [if_neg (by decide : ¬ fB true = 0), if_neg (by decide : ¬ fB true = 0)]
        exact f2.trans (by rw [plainOf_6 d2]; rfl)
theorem oq_below (k1 s1 k2 s2 : Nat → Int32) (a1 a2 : Int32) : ∃ (r5 : Int32 × (Nat → Int32) × (Nat → Int32)) (r6 : Int32 × (Nat → Int32) × (Nat → Int32)), fX5_below k1 s1 a1 a2 = some r5 ∧ fX6_below k2 s2 a1 a2 = some r6 ∧ r5.1 = r6.1 := by
  obtain ⟨b, ra, rb, e1, e2, hp⟩ := read_lays k1 k2 a1
  cases b with
  | false => exact ⟨(-2, ra, s1), (-2, rb, s2), by simp only [fX5_below, e1, bd_some]; rfl, by simp only [fX6_below, e2, bd_some]; rfl, rfl⟩
  | true =>
    obtain ⟨p, h1, h2, h3⟩ := hp rfl
    obtain ⟨b', rc, rd, e3, e4, hp'⟩ := read_lays s1 s2 a2
    cases b' with
    | false => exact ⟨(-2, ra, rc), (-2, rb, rd), by simp only [fX5_below, e1, bd_some, e3]; rfl, by simp only [fX6_below, e2, bd_some, e4]; rfl, rfl⟩
    | true =>
      obtain ⟨q, h4, h5, h6⟩ := hp' rfl
      have A := isBelow_L2 h1 h4 9 fu 1 rfl (by decide) (by rw [fu_s]; omega)
      have B := below_L27 (p1 := a1) (p2 := a2) h2 h5 9 fu 1 rfl (by decide) (by rw [fu_s]; omega)
      have hA : fX1_isBelow ra rc = fX1_isBelow_L2 ra rc fu (nI 1) := rfl
      have five : ∀ b : Bool, fX1_isBelow_L2 ra rc fu (nI 1) = some (fB b) → fX5_below k1 s1 a1 a2 = some (fB b, ra, rc) := by
        intro b hb
        simp only [fX5_below, e1, bd_some, e3, hA, hb]
        cases b <;> rfl
      have six : ∀ b : Bool, fX6_below_L27 a1 a2 fu rb rd (nI 1) = some (fB b, rb, rd) → fX6_below k2 s2 a1 a2 = some (fB b, rb, rd) := by
        intro b hb
        simp only [fX6_below, e2, bd_some, e4]
        rw [if_neg (by decide : ¬ fB true = 0), if_neg (by decide : ¬ fB true = 0)]
        exact hb
      rcases A with ⟨A1, A2⟩ | ⟨⟨j, k, A1⟩, A2⟩ <;> rcases B with ⟨B1, B2⟩ | ⟨⟨j', k', B1⟩, B2⟩
      · exact ⟨_, _, five true A2, six true B2, rfl⟩
      · exfalso
        have := A1 j' k' B1.2.2.1 B1.2.2.2.1 B1.1 B1.2.1
        have := B1.2.2.2.2
        omega
      · exfalso
        have := B1 j k A1.2.2.1 A1.2.2.2.1 A1.1 A1.2.1
        have := A1.2.2.2.2
        omega
      · exact ⟨_, _, five false A2, six false B2, rfl⟩
