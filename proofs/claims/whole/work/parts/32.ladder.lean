/-! ===== ladders ===== -/
theorem lad_bit : ∀ m, m < 1024 → ∀ b, b < 10 → m.testBit b = true → nI m ^^^ nI (2 ^ b) = nI m &&& (nI (2 ^ b) ^^^ -nI 1) := by decide +kernel
theorem fB_n : ¬ fB true = nI 0 := by decide
theorem lad_L {m : Nat} (hm : m < 1024) {i j : Nat} (hi : 2 ≤ i) (hi4 : i ≤ 4) (hj : 1 ≤ j) (hij : j + i ≤ 5) (hbit : m.testBit (btp i j) = true) : ∀ (h fl1 fl2 n : Nat) (f g : Nat → Int32), h < i → h < fl1 → h < fl2 → LsE f g n → n < 32 → ∃ (n' : Nat) (f' g' : Nat → Int32), fX5_putLadder_L26 (nI m) (nI i) (nI j) fl1 f (nI n) (nI h) = some (f', nI n') ∧ fX6_climbs_L5 (nI m) (nI i) (nI j) fl2 (nI n) g (nI h) = some (nI n', g') ∧ LsE f' g' n' ∧ n' ≤ n + 1 := by
  intro h
  induction h with
  | zero =>
    intro fl1 fl2 n f g hhi hf1 hf2 hl hn
    obtain ⟨fl1, rfl⟩ : ∃ q, fl1 = q + 1 := ⟨fl1 - 1, by omega⟩
    obtain ⟨fl2, rfl⟩ : ∃ q, fl2 = q + 1 := ⟨fl2 - 1, by omega⟩
    refine ⟨n, f, g, ?_, ?_, hl, by omega⟩
    · simp only [fX5_putLadder_L26, i_lit]
      rw [if_pos (by decide : nI 0 < nI 1)]
    · simp only [fX6_climbs_L5, fX6_climbs_b26, i_lit]
      rw [if_pos (by decide : nI 0 ≤ nI 0), if_pos (by decide : nI 0 ≤ nI 0)]
  | succ h ih =>
    intro fl1 fl2 n f g hhi hf1 hf2 hl hn
    obtain ⟨fl1, rfl⟩ : ∃ q, fl1 = q + 1 := ⟨fl1 - 1, by omega⟩
    obtain ⟨fl2, rfl⟩ : ∃ q, fl2 = q + 1 := ⟨fl2 - 1, by omega⟩
    have c1 : ¬ nI (h + 1) < nI 1 := fun q => by rw [nI_ltI (by omega) (by omega)] at q; omega
    have c2 : ¬ nI (h + 1) ≤ nI 0 := fun q => by rw [nI_leI (by omega) (by omega)] at q; omega
    have b1 := btp_lt (by omega : 1 ≤ i) hi4 hj hij
    have b2 := btp_lt (by omega : 1 ≤ h + 1) (by omega : h + 1 ≤ 4) (by omega : 1 ≤ j + 1) (by omega)
    simp only [fX5_putLadder_L26, fX5_putLadder_b85, fX6_climbs_L5, fX6_climbs_b26, fX6_areBoth, i_lit, nmE, nI_add, bd_some, isCross_5 hm (by omega : h + 1 ≤ 9) (by omega : j ≤ 9), isCross_5 hm (by omega : h + 1 ≤ 9) (by omega : j + 1 ≤ 9), isCross_6 hm (by omega : h + 1 ≤ 9) (by omega : j ≤ 9), isCross_6 hm (by omega : h + 1 ≤ 9) (by omega : j + 1 ≤ 9), bitOf_5 (by omega : 1 ≤ i) hi4 hj hij, bitOf_5 (by omega : 1 ≤ h + 1) (by omega : h + 1 ≤ 4) (by omega : 1 ≤ j + 1) (by omega), bitOf_6 (by omega : 1 ≤ i) hi4 hj hij, bitOf_6 (by omega : 1 ≤ h + 1) (by omega : h + 1 ≤ 4) (by omega : 1 ≤ j + 1) (by omega), (sh_d _ b1).2, (sh_d _ b2).2, nI_dec (by omega : 0 < h + 1), ← lad_bit m hm _ b1 hbit]
    simp only [if_neg c1, if_neg c2]
    have hs : h + 1 - 1 = h := by omega
    cases crs m (h + 1) j with
    | false =>
      simp only [if_pos fB_f, bd_some, i_lit]
      cases crs m (h + 1) (j + 1) with
      | false =>
        obtain ⟨n', f', g', e1, e2, e3, e4⟩ := put_finds hl hn ((nI m ^^^ nI (2 ^ btp i j)) ||| nI (2 ^ btp (h + 1) (j + 1)))
        refine ⟨n', f', g', ?_, ?_, e3, e4⟩
        · simp only [if_pos fB_f, e1, bd_some]
        · rw [if_pos trivial]
          simp only [if_pos fB_f, e2, bd_some]
      | true =>
        refine ⟨n, f, g, ?_, ?_, hl, by omega⟩
        · simp only [if_neg fB_n]
        · rw [if_pos trivial]
          simp only [if_neg fB_n]
    | true =>
      simp only [if_neg fB_n, bd_some, i_lit]
      cases crs m (h + 1) (j + 1) with
      | false =>
        refine ⟨n, f, g, ?_, ?_, hl, by omega⟩
        · simp only [if_pos fB_f]
        · simp only [if_pos fB_f, bd_some]
          rw [if_pos trivial]
      | true =>
        obtain ⟨n', f', g', e1, e2, e3, e4⟩ := ih fl1 fl2 n f g (by omega) (by omega) (by omega) hl hn
        refine ⟨n', f', g', ?_, ?_, e3, e4⟩
        · simp only [if_neg fB_n, hs]; exact e1
        · simp only [if_neg fB_n, bd_some, hs]
          rw [if_neg (by decide : ¬ nI 1 = nI 0)]; exact e2
theorem lad_in {m : Nat} (hm : m < 1024) {p2 : Int32} {i : Nat} (hi : 2 ≤ i) (hi4 : i ≤ 4) (rec5 : (Nat → Int32) → Int32 → Int32 → Option (Int32 × (Nat → Int32) × Int32)) (rec6 : Int32 → (Nat → Int32) → Int32 → Option (Int32 × Int32 × (Nat → Int32))) : ∀ (q fl1 fl2 j n : Nat) (f g : Nat → Int32), j + q + i = 6 → 1 ≤ j → q < fl1 → q < fl2 → LsE f g n → n + q ≤ 32 → ∃ (n' : Nat) (f' g' : Nat → Int32), fX5_ladder_L32 (nI m) p2 rec5 fl1 f (nI n) (nI i) (nI j) = rec5 f' (nI n') (nI (i + 1)) ∧ fX6_ladder_L34 (nI m) p2 rec6 fl2 (nI n) g (nI i) (nI j) = rec6 (nI n') g' (nI (i + 1)) ∧ LsE f' g' n' ∧ n' ≤ n + q := by
  intro q
  induction q with
  | zero =>
    intro fl1 fl2 j n f g hj h1 hf1 hf2 hl hn
    obtain ⟨fl1, rfl⟩ : ∃ q, fl1 = q + 1 := ⟨fl1 - 1, by omega⟩
    obtain ⟨fl2, rfl⟩ : ∃ q, fl2 = q + 1 := ⟨fl2 - 1, by omega⟩
    refine ⟨n, f, g, ?_, ?_, hl, by omega⟩
    · simp only [fX5_ladder_L32, i_lit, nmE, nI_add]
      rw [i_dif (by omega : i ≤ 5), if_pos ((nI_ltI (by omega) (by omega)).mpr (by omega))]
    · simp only [fX6_ladder_L34, i_lit, nmE, nI_add]
      rw [i_dif (by omega : i ≤ 5), if_pos ((nI_ltI (by omega) (by omega)).mpr (by omega))]
  | succ q ih =>
    intro fl1 fl2 j n f g hj h1 hf1 hf2 hl hn
    obtain ⟨fl1, rfl⟩ : ∃ q, fl1 = q + 1 := ⟨fl1 - 1, by omega⟩
    obtain ⟨fl2, rfl⟩ : ∃ q, fl2 = q + 1 := ⟨fl2 - 1, by omega⟩
    simp only [fX5_ladder_L32, fX6_ladder_L34, fX5_putLadder, fX6_climbs, i_lit, nmE, nI_add, bd_some, isCross_5 hm (by omega : i ≤ 9) (by omega : j ≤ 9), isCross_5 hm (by omega : i ≤ 9) (by omega : j + 1 ≤ 9), isCross_6 hm (by omega : i ≤ 9) (by omega : j ≤ 9), isCross_6 hm (by omega : i ≤ 9) (by omega : j + 1 ≤ 9)]
    rw [i_dif (by omega : i ≤ 5), i_dif (by omega : 1 ≤ i), if_neg (fun h => by rw [nI_ltI (by omega) (by omega)] at h; omega : ¬ nI (5 - i) < nI j), if_neg (fun h => by rw [nI_ltI (by omega) (by omega)] at h; omega : ¬ nI (5 - i) < nI j)]
    cases hc : crs m i j with
    | false =>
      obtain ⟨n', f', g', e1, e2, e3, e4⟩ := ih fl1 fl2 (j + 1) n f g (by omega) (by omega) (by omega) (by omega) hl (by omega)
      refine ⟨n', f', g', ?_, ?_, e3, by omega⟩
      · simp only [if_pos fB_f, bd_some]; exact e1
      · simp only [if_pos fB_f]; exact e2
    | true =>
      cases crs m i (j + 1) with
      | true =>
        obtain ⟨n', f', g', e1, e2, e3, e4⟩ := ih fl1 fl2 (j + 1) n f g (by omega) (by omega) (by omega) (by omega) hl (by omega)
        refine ⟨n', f', g', ?_, ?_, e3, by omega⟩
        · simp only [if_neg fB_n, bd_some]; exact e1
        · simp only [if_neg fB_n]; exact e2
      | false =>
        rw [crs_in (by omega) hi4 h1 (by omega)] at hc
        obtain ⟨n1, f1, g1, c1, c2, c3, c4⟩ := lad_L hm hi hi4 h1 (by omega) hc (i - 1) fu fu n f g (by omega) (by rw [fu_s]; omega) (by rw [fu_s]; omega) hl (by omega)
        obtain ⟨n', f', g', e1, e2, e3, e4⟩ := ih fl1 fl2 (j + 1) n1 f1 g1 (by omega) (by omega) (by omega) (by omega) c3 (by omega)
        refine ⟨n', f', g', ?_, ?_, e3, by omega⟩
        · simp only [if_neg fB_n, if_pos fB_f, c1, bd_some]; exact e1
        · simp only [if_neg fB_n, if_pos fB_f, c2, bd_some]; exact e2
theorem lad_row {m : Nat} (hm : m < 1024) {p2 : Int32} {i : Nat} (hi : 2 ≤ i) (hi4 : i ≤ 4) : ∀ (fl1 fl2 n : Nat) (f g : Nat → Int32), 0 < fl1 → 0 < fl2 → LsE f g n → n ≤ 20 → ∃ (n' : Nat) (f' g' : Nat → Int32), fX5_ladder_L24 (nI m) p2 fl1 f (nI n) (nI i) = fX5_ladder_L24 (nI m) p2 (fl1 - 1) f' (nI n') (nI (i + 1)) ∧ fX6_ladder_L26 (nI m) p2 fl2 (nI n) g (nI i) = fX6_ladder_L26 (nI m) p2 (fl2 - 1) (nI n') g' (nI (i + 1)) ∧ LsE f' g' n' ∧ n' ≤ n + 3 := by
  intro fl1 fl2 n f g hf1 hf2 hl hn
  obtain ⟨fl1, rfl⟩ : ∃ q, fl1 = q + 1 := ⟨fl1 - 1, by omega⟩
  obtain ⟨fl2, rfl⟩ : ∃ q, fl2 = q + 1 := ⟨fl2 - 1, by omega⟩
  obtain ⟨n', f', g', e1, e2, e3, e4⟩ := lad_in hm (p2 := p2) hi hi4 (fX5_ladder_L24 (nI m) p2 fl1) (fX6_ladder_L26 (nI m) p2 fl2) (5 - i) fu fu 1 n f g (by omega) (by decide) (by rw [fu_s]; omega) (by rw [fu_s]; omega) hl (by omega)
  refine ⟨n', f', g', ?_, ?_, e3, by omega⟩
  · simp only [fX5_ladder_L24, i_lit]
    rw [if_neg (fun h => by rw [nI_ltI (by omega) (by omega)] at h; omega), e1]; rfl
  · simp only [fX6_ladder_L26, i_lit]
    rw [if_neg (fun h => by rw [nI_ltI (by omega) (by omega)] at h; omega), e2]; rfl
theorem lad_end {m : Nat} {k : Int32} (hk : -nI 1 ≤ k) : ∀ (fl1 fl2 n : Nat) (f g : Nat → Int32), 0 < fl1 → 0 < fl2 → LsE f g n → n ≤ 32 → ∃ x, fX5_ladder_L24 (nI m) k fl1 f (nI n) (nI 5) = some (x, f, nI n) ∧ fX6_ladder_L26 (nI m) k fl2 (nI n) g (nI 5) = some (x, nI n, g) := by
  intro fl1 fl2 n f g hf1 hf2 hl hn
  obtain ⟨fl1, rfl⟩ : ∃ q, fl1 = q + 1 := ⟨fl1 - 1, by omega⟩
  obtain ⟨fl2, rfl⟩ : ∃ q, fl2 = q + 1 := ⟨fl2 - 1, by omega⟩
  obtain ⟨x, x1, x2⟩ := answers hl hn hk
  refine ⟨x, ?_, ?_⟩
  · simp only [fX5_ladder_L24, i_lit, x1, bd_some]
    rw [if_pos (by decide : nI 4 < nI 5)]
  · simp only [fX6_ladder_L26, i_lit, x2, bd_some]
    rw [if_pos (by decide : nI 4 < nI 5)]
theorem oq_ladder (f0 : Nat → Int32) (s0 n0 : Int32) (g0 : Nat → Int32) (a1 a2 : Int32) : ∃ (r5 : Int32 × (Nat → Int32) × Int32) (r6 : Int32 × Int32 × (Nat → Int32)), fX5_ladder f0 s0 a1 a2 = some r5 ∧ fX6_ladder n0 g0 a1 a2 = some r6 ∧ r5.1 = r6.1 := by
  rcases i_range a1 0 1023 (by decide) (by decide) with h | ⟨m, _, hm, rfl⟩
  · refine ⟨(-nI 2, f0, s0), (-nI 2, n0, g0), ?_, ?_, rfl⟩
    · simp only [fX5_ladder, crossSet_5, bd_some, i_lit]
      rw [if_pos h, if_pos rfl]
    · simp only [fX6_ladder, within_6, bd_some, i_lit]
      rw [if_pos h, if_pos rfl]
  · have hc : ¬ (nI m < nI 0 ∨ nI 1023 < nI m) := by rw [nI_ltI (by omega) (by omega), nI_ltI (by omega) (by omega)]; omega
    have h10 : ¬ nI 1 = nI 0 := by decide
    have hm' : m < 1024 := by omega
    by_cases hk : -nI 1 ≤ a2
    · obtain ⟨n1, f1, g1, p1, q1, l1, b1⟩ := lad_row hm' (p2 := a2) (by decide : 2 ≤ 2) (by decide) fu fu 0 f0 g0 fu_pos fu_pos (fun j hj => by omega) (by omega)
      obtain ⟨n2, f2, g2, p2, q2, l2, b2⟩ := lad_row hm' (p2 := a2) (by decide : 2 ≤ 3) (by decide) (fu - 1) (fu - 1) n1 f1 g1 (by rw [fu_s]; omega) (by rw [fu_s]; omega) l1 (by omega)
      obtain ⟨n3, f3, g3, p3, q3, l3, b3⟩ := lad_row hm' (p2 := a2) (by decide : 2 ≤ 4) (by decide) (fu - 1 - 1) (fu - 1 - 1) n2 f2 g2 (by rw [fu_s]; omega) (by rw [fu_s]; omega) l2 (by omega)
      obtain ⟨x, p4, q4⟩ := lad_end (m := m) hk (fu - 1 - 1 - 1) (fu - 1 - 1 - 1) n3 f3 g3 (by rw [fu_s]; omega) (by rw [fu_s]; omega) l3 (by omega)
      refine ⟨(x, f3, nI n3), (x, nI n3, g3), ?_, ?_, rfl⟩
      · simp only [fX5_ladder, crossSet_5, bd_some, i_lit, fX0_clear]
        rw [if_neg hc, if_neg h10, if_pos hk]
        exact p1.trans (p2.trans (p3.trans p4))
      · simp only [fX6_ladder, within_6, bd_some, i_lit]
        rw [if_neg hc, if_neg h10, if_pos hk]
        exact q1.trans (q2.trans (q3.trans q4))
    · refine ⟨(-nI 2, f0, s0), (-nI 2, n0, g0), ?_, ?_, rfl⟩
      · simp only [fX5_ladder, crossSet_5, bd_some, i_lit]
        rw [if_neg hc, if_neg h10, if_neg hk]
      · simp only [fX6_ladder, within_6, bd_some, i_lit]
        rw [if_neg hc, if_neg h10, if_neg hk]
