/-! ===== exchanges, rises ===== -/
def sw (w : Nat → Nat) (a b : Nat) : Nat → Nat := fun j => if j = b then w a else if j = a then w b else w j
theorem sw_sw (w : Nat → Nat) (a b : Nat) : ∀ j, sw (sw w a b) a b j = w j := by
  intro j
  unfold sw
  by_cases h1 : j = b
  · subst h1
    rw [if_pos rfl]
    by_cases h2 : a = j
    · rw [if_pos h2, h2]
    · rw [if_neg h2, if_pos rfl]
  · rw [if_neg h1]
    by_cases h2 : j = a
    · subst h2; rw [if_pos rfl, if_pos rfl]
    · rw [if_neg h2, if_neg h1, if_neg h2]
theorem Dg.congr {row : Nat → Int32} {w v : Nat → Nat} (h : Dg row w) (e : ∀ j, w j = v j) : Dg row v := fun k h1 h9 => by rw [← e k]; exact h k h1 h9
theorem dg_sw {row row' : Nat → Int32} {w : Nat → Nat} (h : Dg row w) {a b : Nat} (ha : 1 ≤ a) (ha9 : a ≤ 9) (hb : 1 ≤ b) (hb9 : b ≤ 9) (hr : row' = upd (upd row a (nI (w b))) b (nI (w a))) : Dg row' (sw w a b) := by
  intro k h1 h9
  have wa := h a ha ha9
  have wb := h b hb hb9
  have wk := h k h1 h9
  rw [hr]
  show _ ∧ 1 ≤ (if k = b then w a else if k = a then w b else w k) ∧ (if k = b then w a else if k = a then w b else w k) ≤ 9
  by_cases e1 : k = b
  · rw [if_pos e1, e1, upd_s]
    refine ⟨?_, wa.2⟩
    unfold sw; rw [if_pos rfl]
  · rw [if_neg e1, upd_n e1]
    by_cases e2 : k = a
    · rw [if_pos e2, e2, upd_s]
      refine ⟨?_, wb.2⟩
      unfold sw; rw [if_neg (by rw [← e2]; exact e1), if_pos rfl]
    · rw [if_neg e2, upd_n e2]
      refine ⟨?_, wk.2⟩
      unfold sw; rw [if_neg e1, if_neg e2]; exact wk.1
theorem exch_1 {row : Nat → Int32} {w : Nat → Nat} (h : Dg row w) {a b : Nat} (ha : 1 ≤ a) (ha9 : a ≤ 9) (hb : 1 ≤ b) (hb9 : b ≤ 9) : ∃ row', fX1_exchange row (nI a) (nI b) = some row' ∧ Dg row' (sw w a b) := by
  refine ⟨_, ?_, dg_sw h ha ha9 hb hb9 rfl⟩
  simp only [fX1_exchange, digit_at h ha ha9, digit_at h hb hb9, bd_some, put_1 ha ha9, put_1 hb hb9]
theorem exch_6 {row : Nat → Int32} {w : Nat → Nat} (h : Dg row w) {a b : Nat} (ha : 1 ≤ a) (ha9 : a ≤ 9) (hb : 1 ≤ b) (hb9 : b ≤ 9) : ∃ row', fX6_exchange row (nI a) (nI b) = some row' ∧ Dg row' (sw w a b) := by
  refine ⟨_, ?_, dg_sw h ha ha9 hb hb9 rfl⟩
  have wa := h a ha ha9
  have wb := h b hb hb9
  simp only [fX6_exchange, nmE]
  simp (disch := omega) only [gI_at, pI_at, wa.1, wb.1]
/-- one exchange tried on both sides -/
theorem put_ex {r1 r2 : Nat → Int32} {w : Nat → Nat} (h1 : Dg r1 w) (h2 : Dg r2 w) {f g : Nat → Int32} {n : Nat} (hl : LsE f g n) (hn : n < 32) {a b : Nat} (ha : 1 ≤ a) (ha9 : a ≤ 9) (hb : 1 ≤ b) (hb9 : b ≤ 9) {L : Nat} (hL : L < 2 ^ 31) : ∃ (n' : Nat) (f' g' s1 s2 t2 : Nat → Int32), fX5_putExchanged f (nI n) r1 (nI a) (nI b) (nI L) = some (f', nI n', s1) ∧ fX6_exchange r2 (nI a) (nI b) = some s2 ∧ fX6_exchange s2 (nI a) (nI b) = some t2 ∧ fX6_lengthOf s2 = some (nI (ln (sw w a b))) ∧ fX6_plainOf s2 = some (nI (plN (sw w a b))) ∧ Dg s1 w ∧ Dg t2 w ∧ LsE f' g' n' ∧ n' ≤ n + 1 ∧ ((ln (sw w a b) = L ∧ fX6_finds (nI n) g (nI (plN (sw w a b))) = some (nI n', g')) ∨ (ln (sw w a b) ≠ L ∧ n' = n ∧ g' = g)) := by
  obtain ⟨s1, e1, d1⟩ := exch_1 h1 ha ha9 hb hb9
  obtain ⟨s2, e2, d2⟩ := exch_6 h2 ha ha9 hb hb9
  obtain ⟨t1, e3, d3⟩ := exch_1 d1 ha ha9 hb hb9
  obtain ⟨t2, e4, d4⟩ := exch_6 d2 ha ha9 hb hb9
  have d3' := d3.congr (sw_sw w a b)
  have d4' := d4.congr (sw_sw w a b)
  have hle := ln_le (sw w a b)
  by_cases hc : ln (sw w a b) = L
  · obtain ⟨n', f', g', p1, p2, p3, p4⟩ := put_finds hl hn (nI (plN (sw w a b)))
    refine ⟨n', f', g', t1, s2, t2, ?_, e2, e4, lengthOf_6 d2, plainOf_6 d2, d3', d4', p3, p4, Or.inl ⟨hc, p2⟩⟩
    simp only [fX5_putExchanged, fX5_putExchanged_b26, e1, bd_some, inversions_1 d1, plainNumber_1 d1, p1, e3]
    rw [hc, if_pos rfl]
  · refine ⟨n, f, g, t1, s2, t2, ?_, e2, e4, lengthOf_6 d2, plainOf_6 d2, d3', d4', hl, by omega, Or.inr ⟨hc, rfl, rfl⟩⟩
    simp only [fX5_putExchanged, fX5_putExchanged_b26, e1, bd_some, inversions_1 d1, e3]
    rw [if_neg (by rw [nI_eq (by omega) hL]; exact hc)]
theorem rise_in {p1 p2 p3 : Int32} {w : Nat → Nat} {r a : Nat} (ha : 1 ≤ a) (har : a ≤ r) (hr : r ≤ 8) {L : Nat} (hL : L ≤ 81) (rec5 : (Nat → Int32) → (Nat → Int32) → Int32 → Int32 → Int32 → Option (Int32 × (Nat → Int32) × (Nat → Int32) × Int32)) (rec6 : (Nat → Int32) → Int32 → (Nat → Int32) → Int32 → Int32 → Option (Int32 × (Nat → Int32) × Int32 × (Nat → Int32))) : ∀ (m fl1 fl2 b n : Nat) (f g r1 r2 : Nat → Int32), b + m = 10 → r < b → m < fl1 → m < fl2 → Dg r1 w → Dg r2 w → LsE f g n → n + m ≤ 32 → ∃ (n' : Nat) (f' g' r1' r2' : Nat → Int32), fX5_rise_L68 p1 p2 p3 rec5 fl1 r1 f (nI n) (nI (L + 1)) (nI a) (nI b) = rec5 r1' f' (nI n') (nI (L + 1)) (nI (a + 1)) ∧ fX6_rise_L63 p1 p2 p3 rec6 fl2 r2 (nI n) g (nI L) (nI a) (nI b) = rec6 r2' (nI n') g' (nI L) (nI (a + 1)) ∧ Dg r1' w ∧ Dg r2' w ∧ LsE f' g' n' ∧ n' ≤ n + m := by
  intro m
  induction m with
  | zero =>
    intro fl1 fl2 b n f g r1 r2 hb hrb hf1 hf2 d1 d2 hl hn
    obtain ⟨fl1, rfl⟩ : ∃ q, fl1 = q + 1 := ⟨fl1 - 1, by omega⟩
    obtain ⟨fl2, rfl⟩ : ∃ q, fl2 = q + 1 := ⟨fl2 - 1, by omega⟩
    refine ⟨n, f, g, r1, r2, ?_, ?_, d1, d2, hl, by omega⟩
    · simp only [fX5_rise_L68, i_lit, nmE, nI_add]
      rw [if_pos ((nI_ltI (by omega) (by omega)).mpr (by omega))]
    · simp only [fX6_rise_L63, i_lit, nmE, nI_add]
      rw [if_pos ((nI_ltI (by omega) (by omega)).mpr (by omega))]
  | succ m ih =>
    intro fl1 fl2 b n f g r1 r2 hb hrb hf1 hf2 d1 d2 hl hn
    obtain ⟨fl1, rfl⟩ : ∃ q, fl1 = q + 1 := ⟨fl1 - 1, by omega⟩
    obtain ⟨fl2, rfl⟩ : ∃ q, fl2 = q + 1 := ⟨fl2 - 1, by omega⟩
    obtain ⟨n', f', g', s1, s2, t2, q1, q2, q3, q4, q5, q6, q7, q8, q9, q10⟩ := put_ex d1 d2 hl (by omega) ha (by omega) (by omega : 1 ≤ b) (by omega) (by omega : L + 1 < 2 ^ 31)
    obtain ⟨n2, f2, g2, u1, u2, c1, c2, c3, c4, c5, c6⟩ := ih fl1 fl2 (b + 1) n' f' g' s1 t2 (by omega) (by omega) (by omega) (by omega) q6 q7 q8 (by omega)
    refine ⟨n2, f2, g2, u1, u2, ?_, ?_, c3, c4, c5, by omega⟩
    · simp only [fX5_rise_L68, i_lit, nmE, nI_add, q1, bd_some]
      rw [if_neg (fun h => by rw [nI_ltI (by omega) (by omega)] at h; omega)]
      exact c1
    · have hle := ln_le (sw w a b)
      simp only [fX6_rise_L63, fX6_rise_b106, i_lit, nmE, nI_add, q2, q3, q4, q5, bd_some]
      rw [if_neg (fun h => by rw [nI_ltI (by omega) (by omega)] at h; omega)]
      rcases q10 with ⟨x1, x2⟩ | ⟨x1, x2, x3⟩
      · rw [x1, if_pos rfl, x2, bd_some]
        exact c2
      · rw [if_neg (by rw [nI_eq (by omega) (by omega)]; exact x1), ← x2, ← x3]
        exact c2
theorem rise_out {p1 : Int32} {w : Nat → Nat} {r : Nat} (hr1 : 1 ≤ r) (hr : r ≤ 8) {L : Nat} (hL : L ≤ 81) {k : Int32} (hk : -nI 1 ≤ k) : ∀ (m fl1 fl2 a n : Nat) (f g r1 r2 : Nat → Int32), a + m = r + 1 → 1 ≤ a → m < fl1 → m < fl2 → Dg r1 w → Dg r2 w → LsE f g n → n + m * (9 - r) ≤ 32 → ∃ (x : Int32) (n' : Nat) (f' g' r1' r2' : Nat → Int32), fX5_rise_L57 p1 (nI r) k fl1 r1 f (nI n) (nI (L + 1)) (nI a) = some (x, r1', f', nI n') ∧ fX6_rise_L52 p1 (nI r) k fl2 r2 (nI n) g (nI L) (nI a) = some (x, r2', nI n', g') := by
  intro m
  induction m with
  | zero =>
    intro fl1 fl2 a n f g r1 r2 ha h1 hf1 hf2 d1 d2 hl hn
    obtain ⟨fl1, rfl⟩ : ∃ q, fl1 = q + 1 := ⟨fl1 - 1, by omega⟩
    obtain ⟨fl2, rfl⟩ : ∃ q, fl2 = q + 1 := ⟨fl2 - 1, by omega⟩
    obtain ⟨x, x1, x2⟩ := answers hl (by omega) hk
    refine ⟨x, n, f, g, r1, r2, ?_, ?_⟩
    · simp only [fX5_rise_L57, i_lit, x1, bd_some]
      rw [if_pos ((nI_ltI (by omega) (by omega)).mpr (by omega))]
    · simp only [fX6_rise_L52, i_lit, x2, bd_some]
      rw [if_pos ((nI_ltI (by omega) (by omega)).mpr (by omega))]
  | succ m ih =>
    intro fl1 fl2 a n f g r1 r2 ha h1 hf1 hf2 d1 d2 hl hn
    obtain ⟨fl1, rfl⟩ : ∃ q, fl1 = q + 1 := ⟨fl1 - 1, by omega⟩
    obtain ⟨fl2, rfl⟩ : ∃ q, fl2 = q + 1 := ⟨fl2 - 1, by omega⟩
    have hmul : (m + 1) * (9 - r) = m * (9 - r) + (9 - r) := Nat.succ_mul _ _
    obtain ⟨n', f', g', s1, s2, q1, q2, q3, q4, q5, q6⟩ := rise_in (p1 := p1) (p2 := nI r) (p3 := k) h1 (by omega : a ≤ r) hr hL (fX5_rise_L57 p1 (nI r) k fl1) (fX6_rise_L52 p1 (nI r) k fl2) (9 - r) fu fu (r + 1) n f g r1 r2 (by omega) (by omega) (by rw [fu_s]; omega) (by rw [fu_s]; omega) d1 d2 hl (by omega)
    obtain ⟨x, n2, f2, g2, u1, u2, c1, c2⟩ := ih fl1 fl2 (a + 1) n' f' g' s1 s2 (by omega) (by omega) (by omega) (by omega) q3 q4 q5 (by omega)
    refine ⟨x, n2, f2, g2, u1, u2, ?_, ?_⟩
    · simp only [fX5_rise_L57, i_lit, nmE, nI_add]
      rw [if_neg (fun h => by rw [nI_ltI (by omega) (by omega)] at h; omega), q1]
      exact c1
    · simp only [fX6_rise_L52, i_lit, nmE, nI_add]
      rw [if_neg (fun h => by rw [nI_ltI (by omega) (by omega)] at h; omega), q2]
      exact c2
theorem oq_rise (k1 f0 : Nat → Int32) (s0 : Int32) (k2 : Nat → Int32) (n0 : Int32) (g0 : Nat → Int32) (a1 a2 a3 : Int32) : ∃ (r5 : Int32 × (Nat → Int32) × (Nat → Int32) × Int32) (r6 : Int32 × (Nat → Int32) × Int32 × (Nat → Int32)), fX5_rise k1 f0 s0 a1 a2 a3 = some r5 ∧ fX6_rise k2 n0 g0 a1 a2 a3 = some r6 ∧ r5.1 = r6.1 := by
  obtain ⟨b, ra, rb, e1, e2, hp⟩ := read_lays k1 k2 a1
  by_cases hw : nI 99999999 < a1
  · refine ⟨(-nI 2, k1, f0, s0), (-nI 2, rb, n0, g0), ?_, ?_, rfl⟩
    · simp only [fX5_rise, i_lit]; rw [if_pos hw]
    · simp only [fX6_rise, e2, bd_some, i_lit]
      rw [if_pos hw]
      by_cases hb : fB b = nI 0
      · rw [if_pos hb]
      · rw [if_neg hb]
  · cases b with
    | false =>
      refine ⟨(-nI 2, ra, f0, s0), (-nI 2, rb, n0, g0), ?_, ?_, rfl⟩
      · simp only [fX5_rise, e1, bd_some, i_lit]; rw [if_neg hw, if_pos fB_f]
      · simp only [fX6_rise, e2, bd_some, i_lit]; rw [if_pos fB_f]
    | true =>
      obtain ⟨p, h1, h2, h3⟩ := hp rfl
      have ht : ¬ fB true = nI 0 := by decide
      rcases i_range a2 1 8 (by decide) (by decide) with h | ⟨r, hr1, hr8, rfl⟩
      · refine ⟨(-nI 2, ra, f0, s0), (-nI 2, rb, n0, g0), ?_, ?_, rfl⟩
        · simp only [fX5_rise, e1, bd_some, i_lit]
          rw [if_neg hw, if_neg ht]
          by_cases h4 : a2 < nI 1
          · rw [if_pos h4]
          · rw [if_neg h4]
            have h5 : nI 9 ≤ a2 := by
              rcases h with h | h
              · exact absurd h h4
              · rw [Int32.lt_iff_toInt_lt, nI_toInt (by decide)] at h
                rw [Int32.le_iff_toInt_le, nI_toInt (by decide)]
                omega
            rw [if_pos h5]
        · simp only [fX6_rise, e2, bd_some, i_lit, within_6]
          rw [if_neg ht, if_neg hw, if_pos h, if_pos rfl]
      · have c1 : ¬ nI r < nI 1 := by rw [nI_ltI (by omega) (by omega)]; omega
        have c2 : ¬ nI 9 ≤ nI r := by rw [nI_leI (by omega) (by omega)]; omega
        have c3 : ¬ (nI r < nI 1 ∨ nI 8 < nI r) := by rw [nI_ltI (by omega) (by omega), nI_ltI (by omega) (by omega)]; omega
        by_cases hk : -nI 1 ≤ a3
        · have hln := ln_le p
          have hmul : r * (9 - r) ≤ 32 := by
            rcases (show r = 1 ∨ r = 2 ∨ r = 3 ∨ r = 4 ∨ r = 5 ∨ r = 6 ∨ r = 7 ∨ r = 8 by omega) with rfl | rfl | rfl | rfl | rfl | rfl | rfl | rfl <;> decide
          obtain ⟨x, n', f', g', u1, u2, q1, q2⟩ := rise_out (p1 := a1) hr1 hr8 hln hk r fu fu 1 0 f0 g0 ra rb (by omega) (by decide) (by rw [fu_s]; omega) (by rw [fu_s]; omega) h1 h2 (fun j hj => by omega) (by omega)
          refine ⟨(x, u1, f', nI n'), (x, u2, nI n', g'), ?_, ?_, rfl⟩
          · simp only [fX5_rise, e1, bd_some, i_lit, inversions_1 h1, nmE, nI_add, fX0_clear]
            rw [if_neg hw, if_neg ht, if_neg c1, if_neg c2, if_pos hk]
            exact q1
          · simp only [fX6_rise, e2, bd_some, i_lit, within_6, lengthOf_6 h2]
            rw [if_neg ht, if_neg hw, if_neg c3, if_neg (by decide : ¬ nI 1 = nI 0), if_pos hk]
            exact q2
        · refine ⟨(-nI 2, ra, f0, s0), (-nI 2, rb, n0, g0), ?_, ?_, rfl⟩
          · simp only [fX5_rise, e1, bd_some, i_lit]
            rw [if_neg hw, if_neg ht, if_neg c1, if_neg c2, if_neg hk]
          · simp only [fX6_rise, e2, bd_some, i_lit, within_6]
            rw [if_neg ht, if_neg hw, if_neg c3, if_neg (by decide : ¬ nI 1 = nI 0), if_neg hk]
