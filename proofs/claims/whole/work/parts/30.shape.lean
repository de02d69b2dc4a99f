/-! ===== shapes, patterns ===== -/
def bc (m : Nat) : Nat := m % 2 + m / 2 % 2 + m / 4 % 2 + m / 8 % 2 + m / 16 % 2 + m / 32 % 2 + m / 64 % 2 + m / 128 % 2 + m / 256 % 2 + m / 512 % 2
theorem bitCount_J : ∀ m, m < 1024 → fJ6_bitCount_0f7a4 (nI m) = some (nI (bc m)) := by decide +kernel
theorem bc_one : ∀ s, s < 512 → ((nI (bc s) = nI 1) ↔ (¬ nI s = nI 0 ∧ nI s &&& (nI s - nI 1) = nI 0)) := by decide +kernel
theorem oq_shape (k1 k2 : Nat → Int32) (a1 a2 : Int32) : ∃ (r5 : Int32 × (Nat → Int32)) (r6 : Int32 × (Nat → Int32)), fX5_shape k1 a1 a2 = some r5 ∧ fX6_shape k2 a1 a2 = some r6 ∧ r5.1 = r6.1 := by
  obtain ⟨b, ra, rb, e1, e2, hp⟩ := read_lays k1 k2 a1
  cases b with
  | false =>
    refine ⟨(-nI 2, ra), (-nI 2, rb), ?_, ?_, rfl⟩
    · simp only [fX5_shape, e1, bd_some, i_lit]; rw [if_pos fB_f]
    · simp only [fX6_shape, e2, bd_some, i_lit]; rw [if_pos fB_f]
  | true =>
    obtain ⟨w, h1, h2, h3⟩ := hp rfl
    have ht : ¬ fB true = nI 0 := by decide
    have hfit := fit_iff w
    have hdn := dn_iff w
    by_cases hk : nI 1 ≤ a2
    · by_cases hb : nI (bc (dset w)) = nI 1
      · obtain ⟨c1, c2⟩ := (bc_one (dset w) hfit.2.1).mp hb
        have hz2 : dset w ≠ 0 := fun h => c1 (by rw [h])
        have hz : dlast w ≠ 0 := fun h => hz2 (hdn.2.mpr (by rw [← hdn.1]; exact h))
        obtain ⟨k, hk2, rfl⟩ := nI_of (x := a2) (fun h => by
          rw [Int32.le_iff_toInt_le, nI_toInt (by decide)] at hk
          rw [Int32.lt_iff_toInt_lt] at h
          have e0 : (0 : Int32).toInt = 0 := by decide
          omega)
        rw [nI_leI (by decide) hk2] at hk
        by_cases hkr : k ≤ dlast w
        · have wp := h1 (dlast w + 1 - k) (by omega) (by omega)
          have wq := h2 (dlast w + 1 - k) (by omega) (by omega)
          refine ⟨(nI (w (dlast w + 1 - k)) - nI (dlast w + 1 - k), ra), (nI (w (dlast w + 1 - k)) - nI (dlast w + 1 - k), rb), ?_, ?_, rfl⟩
          · simp only [fX5_shape, e1, bd_some, i_lit, descentSet_1 h1, bitCount_J (dset w) (by omega), lastDescent_1 h1, nmE, nI_add]
            rw [i_dif (by omega : k ≤ dlast w + 1), digit_at h1 (by omega : 1 ≤ dlast w + 1 - k) (by omega), bd_some, if_neg ht, if_pos ((nI_leI (by decide) hk2).mpr hk), if_pos hb, if_pos ((nI_leI hk2 (by omega)).mpr hkr)]
          · simp only [fX6_shape, e2, bd_some, i_lit, descentsOf_6 h2, lastD_6 h2 h3 hz, nI_add]
            rw [i_dif (by omega : k ≤ dlast w + 1), gI_at (by omega) (by decide), wq.1, if_neg ht, if_pos ((nI_leI (by decide) hk2).mpr hk), if_neg c1, if_pos c2, if_neg (fun h => by rw [nI_ltI (by omega) hk2] at h; omega)]
        · refine ⟨(-nI 9, ra), (-nI 9, rb), ?_, ?_, rfl⟩
          · simp only [fX5_shape, e1, bd_some, i_lit, descentSet_1 h1, bitCount_J (dset w) (by omega), lastDescent_1 h1]
            rw [if_neg ht, if_pos ((nI_leI (by decide) hk2).mpr hk), if_pos hb, if_neg (fun h => by rw [nI_leI hk2 (by omega)] at h; omega)]
          · simp only [fX6_shape, e2, bd_some, i_lit, descentsOf_6 h2, lastD_6 h2 h3 hz]
            rw [if_neg ht, if_pos ((nI_leI (by decide) hk2).mpr hk), if_neg c1, if_pos c2, if_pos ((nI_ltI (by omega) hk2).mpr (by omega))]
      · refine ⟨(-nI 3, ra), (-nI 3, rb), ?_, ?_, rfl⟩
        · simp only [fX5_shape, e1, bd_some, i_lit, descentSet_1 h1, bitCount_J (dset w) (by omega)]
          rw [if_neg ht, if_pos hk, if_neg hb]
        · simp only [fX6_shape, e2, bd_some, i_lit, descentsOf_6 h2]
          rw [if_neg ht, if_pos hk]
          by_cases c1 : nI (dset w) = nI 0
          · rw [if_pos c1]
          · rw [if_neg c1]
            by_cases c2 : nI (dset w) &&& (nI (dset w) - nI 1) = nI 0
            · exact absurd ((bc_one (dset w) hfit.2.1).mpr ⟨c1, c2⟩) hb
            · rw [if_neg c2]
    · refine ⟨(-nI 2, ra), (-nI 2, rb), ?_, ?_, rfl⟩
      · simp only [fX5_shape, e1, bd_some, i_lit]; rw [if_neg ht, if_neg hk]
      · simp only [fX6_shape, e2, bd_some, i_lit]; rw [if_neg ht, if_neg hk]
/-- three places with the least, the greatest, the middle -/
def T3 (w : Nat → Nat) (a b c : Nat) : Prop := 1 ≤ a ∧ a < b ∧ b < c ∧ c ≤ 9 ∧ w a < w c ∧ w c < w b
theorem least_L {row : Nat → Int32} {w : Nat → Nat} (h : Dg row w) {b : Nat} (hb : b ≤ 9) : ∀ (m fl j x : Nat), j + m = b → 1 ≤ j → m < fl → x ≤ 10 → ∃ v, v ≤ 10 ∧ fX1_leastAhead_L5 row (nI b) fl (nI x) (nI j) = some (nI v) ∧ ∀ y, v < y ↔ (x < y ∨ ∃ a, j ≤ a ∧ a < b ∧ w a < y) := by
  intro m
  induction m with
  | zero =>
    intro fl j x hj h1 hf hx
    obtain ⟨fl, rfl⟩ : ∃ q, fl = q + 1 := ⟨fl - 1, by omega⟩
    refine ⟨x, hx, ?_, fun y => ⟨fun h => Or.inl h, fun h => ?_⟩⟩
    · simp only [fX1_leastAhead_L5, i_lit]
      rw [if_pos ((nI_leI (by omega) (by omega)).mpr (by omega))]
    · rcases h with h | ⟨a, h2, h3, _⟩
      · exact h
      · omega
  | succ m ih =>
    intro fl j x hj h1 hf hx
    obtain ⟨fl, rfl⟩ : ∃ q, fl = q + 1 := ⟨fl - 1, by omega⟩
    have wj := h j h1 (by omega)
    obtain ⟨v, v0, v1, v2⟩ := ih fl (j + 1) (if w j < x then w j else x) (by omega) (by omega) (by omega) (by split <;> omega)
    refine ⟨v, v0, ?_, fun y => ?_⟩
    · simp only [fX1_leastAhead_L5, i_lit, nmE, nI_add, digit_at h h1 (by omega : j ≤ 9), bd_some]
      rw [if_neg (fun q => by rw [nI_leI (by omega) (by omega)] at q; omega)]
      have e : (if nI (w j) < nI x then nI (w j) else nI x) = nI (if w j < x then w j else x) := by
        by_cases hc : w j < x
        · rw [if_pos ((nI_ltI (by omega) (by omega)).mpr hc), if_pos hc]
        · rw [if_neg (fun q => hc ((nI_ltI (by omega) (by omega)).mp q)), if_neg hc]
      rw [e]
      exact v1
    · rw [v2 y]
      constructor
      · rintro (q | ⟨a, q1, q2, q3⟩)
        · split at q
          · exact Or.inr ⟨j, Nat.le_refl _, by omega, q⟩
          · exact Or.inl q
        · exact Or.inr ⟨a, by omega, q2, q3⟩
      · rintro (q | ⟨a, q1, q2, q3⟩)
        · left; split <;> omega
        · by_cases ea : a = j
          · subst ea; left; split <;> omega
          · exact Or.inr ⟨a, by omega, q2, q3⟩
theorem least_1 {row : Nat → Int32} {w : Nat → Nat} (h : Dg row w) {b : Nat} (h1 : 1 ≤ b) (hb : b ≤ 9) : ∃ v, v ≤ 10 ∧ fX1_leastAhead row (nI b) = some (nI v) ∧ ∀ y, y ≤ 10 → (v < y ↔ ∃ a, 1 ≤ a ∧ a < b ∧ w a < y) := by
  obtain ⟨v, v0, v1, v2⟩ := least_L h hb (b - 1) fu 1 10 (by omega) (by decide) (by rw [fu_s]; omega) (Nat.le_refl _)
  refine ⟨v, v0, by simp only [fX1_leastAhead, i_lit]; exact v1, fun y hy => ?_⟩
  rw [v2 y]
  constructor
  · rintro (q | q)
    · omega
    · exact q
  · exact Or.inr
theorem lgm_L12 {row : Nat → Int32} {w : Nat → Nat} (h : Dg row w) (rec : Int32 → Option Int32) {b : Nat} (hb : 1 ≤ b) (hb9 : b ≤ 9) : ∀ (m fl c : Nat), c + m = 10 → b < c → m < fl → ((∃ a c', T3 w a b c' ∧ c ≤ c') ∧ fX1_hasLeastGreatestMiddle_L12 row rec fl (nI b) (nI c) = some (nI 1)) ∨ ((¬ ∃ a c', T3 w a b c' ∧ c ≤ c') ∧ fX1_hasLeastGreatestMiddle_L12 row rec fl (nI b) (nI c) = rec (nI (b + 1))) := by
  intro m
  induction m with
  | zero =>
    intro fl c hc hbc hf
    obtain ⟨fl, rfl⟩ : ∃ q, fl = q + 1 := ⟨fl - 1, by omega⟩
    refine Or.inr ⟨fun ⟨a, c', ⟨_, _, _, q, _⟩, q2⟩ => by omega, ?_⟩
    simp only [fX1_hasLeastGreatestMiddle_L12, i_lit, nmE, nI_add]
    rw [if_pos ((nI_ltI (by omega) (by omega)).mpr (by omega))]
  | succ m ih =>
    intro fl c hc hbc hf
    obtain ⟨fl, rfl⟩ : ∃ q, fl = q + 1 := ⟨fl - 1, by omega⟩
    have wb := h b hb hb9
    have wc := h c (by omega) (by omega)
    obtain ⟨v, v0, v1, v2⟩ := least_1 h hb hb9
    have step : (¬ ∃ a, T3 w a b c) → ((∃ a c', T3 w a b c' ∧ c ≤ c') ↔ ∃ a c', T3 w a b c' ∧ c + 1 ≤ c') := by
      intro hn
      constructor
      · rintro ⟨a, c', q1, q2⟩
        by_cases e : c' = c
        · subst e; exact absurd ⟨a, q1⟩ hn
        · exact ⟨a, c', q1, by omega⟩
      · rintro ⟨a, c', q1, q2⟩; exact ⟨a, c', q1, by omega⟩
    simp only [fX1_hasLeastGreatestMiddle_L12, i_lit, nmE, nI_add, v1, bd_some]
    rw [if_neg (fun q => by rw [nI_ltI (by omega) (by omega)] at q; omega)]
    simp (disch := omega) only [gI_at, wb.1, wc.1, nI_leI]
    by_cases h1 : w b ≤ w c
    · rw [if_pos h1, step (fun ⟨a, _, _, _, _, _, q⟩ => by omega)]
      exact ih fl (c + 1) (by omega) (by omega) (by omega)
    · rw [if_neg h1]
      by_cases h2 : w c ≤ v
      · rw [if_pos h2, step (fun ⟨a, q1, q2, _, _, q5, _⟩ => by
          have := (v2 (w c) (by omega)).mpr ⟨a, q1, q2, q5⟩
          omega)]
        exact ih fl (c + 1) (by omega) (by omega) (by omega)
      · rw [if_neg h2]
        obtain ⟨a, q1, q2, q3⟩ := (v2 (w c) (by omega)).mp (by omega)
        exact Or.inl ⟨⟨a, c, ⟨q1, q2, hbc, by omega, q3, by omega⟩, Nat.le_refl _⟩, rfl⟩
theorem lgm_L2 {row : Nat → Int32} {w : Nat → Nat} (h : Dg row w) : ∀ (m fl b : Nat), b + m = 9 → 2 ≤ b → m < fl → ((∃ a b' c, T3 w a b' c ∧ b ≤ b') ∧ fX1_hasLeastGreatestMiddle_L2 row fl (nI b) = some (nI 1)) ∨ ((¬ ∃ a b' c, T3 w a b' c ∧ b ≤ b') ∧ fX1_hasLeastGreatestMiddle_L2 row fl (nI b) = some (nI 0)) := by
  intro m
  induction m with
  | zero =>
    intro fl b hb h2 hf
    obtain ⟨fl, rfl⟩ : ∃ q, fl = q + 1 := ⟨fl - 1, by omega⟩
    refine Or.inr ⟨fun ⟨a, b', c, ⟨_, _, q1, q2, _⟩, q3⟩ => by omega, ?_⟩
    simp only [fX1_hasLeastGreatestMiddle_L2, i_lit]
    rw [if_pos ((nI_leI (by omega) (by omega)).mpr (by omega))]
  | succ m ih =>
    intro fl b hb h2 hf
    obtain ⟨fl, rfl⟩ : ∃ q, fl = q + 1 := ⟨fl - 1, by omega⟩
    simp only [fX1_hasLeastGreatestMiddle_L2, i_lit, nmE, nI_add]
    rw [if_neg (fun q => by rw [nI_leI (by omega) (by omega)] at q; omega)]
    rcases lgm_L12 h (fX1_hasLeastGreatestMiddle_L2 row fl) (by omega : 1 ≤ b) (by omega) (9 - b) fu (b + 1) (by omega) (by omega) (by rw [fu_s]; omega) with ⟨⟨a, c, q1, _⟩, q2⟩ | ⟨q1, q2⟩
    · exact Or.inl ⟨⟨a, b, c, q1, Nat.le_refl _⟩, q2⟩
    · rw [q2]
      have e : (∃ a b' c, T3 w a b' c ∧ b ≤ b') ↔ ∃ a b' c, T3 w a b' c ∧ b + 1 ≤ b' := by
        constructor
        · rintro ⟨a, b', c, x1, x2⟩
          by_cases eb : b' = b
          · subst eb; exact absurd ⟨a, c, x1, by have := x1.2.2.1; omega⟩ q1
          · exact ⟨a, b', c, x1, by omega⟩
        · rintro ⟨a, b', c, x1, x2⟩; exact ⟨a, b', c, x1, by omega⟩
      rw [e]
      exact ih fl (b + 1) (by omega) (by omega) (by omega)
theorem lgm_1 {row : Nat → Int32} {w : Nat → Nat} (h : Dg row w) : ((∃ a b c, T3 w a b c) ∧ fX1_hasLeastGreatestMiddle row = some (nI 1)) ∨ ((¬ ∃ a b c, T3 w a b c) ∧ fX1_hasLeastGreatestMiddle row = some (nI 0)) := by
  have := lgm_L2 h 7 fu 2 (by omega) (by decide) (by rw [fu_s]; omega)
  have e : (∃ a b' c, T3 w a b' c ∧ 2 ≤ b') ↔ ∃ a b c, T3 w a b c := by
    constructor
    · rintro ⟨a, b, c, x, _⟩; exact ⟨a, b, c, x⟩
    · rintro ⟨a, b, c, x⟩; exact ⟨a, b, c, x, by have := x.1; have := x.2.1; omega⟩
  rw [e] at this
  simp only [fX1_hasLeastGreatestMiddle, i_lit]
  exact this
/-- the places of x -/
def tA (x : Nat) : Nat := x / 81 + 1
def tB (x : Nat) : Nat := x / 9 % 9 + 1
def tC (x : Nat) : Nat := x % 9 + 1
theorem three_L {row : Nat → Int32} {w : Nat → Nat} (h : Dg row w) : ∀ (m fl x : Nat) (b : Bool), x + m = 729 → m < fl → ∃ b', fX6_hasThree_L4 row fl (fB b) (nI x) = some (fB b') ∧ (b' = true ↔ b = true ∨ ∃ y, x ≤ y ∧ y < 729 ∧ T3 w (tA y) (tB y) (tC y)) := by
  intro m
  induction m with
  | zero =>
    intro fl x b hx hf
    obtain ⟨fl, rfl⟩ : ∃ q, fl = q + 1 := ⟨fl - 1, by omega⟩
    refine ⟨b, ?_, ⟨Or.inl, fun h => ?_⟩⟩
    · simp only [fX6_hasThree_L4, i_lit]
      rw [if_pos ((nI_leI (by omega) (by omega)).mpr (by omega))]
      cases b
      · exact bz_0 _
      · exact bz_1 _
    · rcases h with h | ⟨y, h1, h2, _⟩
      · exact h
      · omega
  | succ m ih =>
    intro fl x b hx hf
    obtain ⟨fl, rfl⟩ : ∃ q, fl = q + 1 := ⟨fl - 1, by omega⟩
    have step : ∀ bb : Bool, (b = true → bb = true) → (b = false → (bb = true ↔ T3 w (tA x) (tB x) (tC x))) → ∃ b', fX6_hasThree_L4 row fl (fB bb) (nI (x + 1)) = some (fB b') ∧ (b' = true ↔ b = true ∨ ∃ y, x ≤ y ∧ y < 729 ∧ T3 w (tA y) (tB y) (tC y)) := by
      intro bb h1 h2
      obtain ⟨b', e1, e2⟩ := ih fl (x + 1) bb (by omega) (by omega)
      refine ⟨b', e1, ?_⟩
      rw [e2]
      cases b with
      | true => simp [h1 rfl]
      | false =>
        constructor
        · rintro (q | ⟨y, q1, q2, q3⟩)
          · exact Or.inr ⟨x, Nat.le_refl _, by omega, (h2 rfl).mp q⟩
          · exact Or.inr ⟨y, by omega, q2, q3⟩
        · rintro (q | ⟨y, q1, q2, q3⟩)
          · cases q
          · by_cases e : y = x
            · subst e; exact Or.inl ((h2 rfl).mpr q3)
            · exact Or.inr ⟨y, by omega, q2, q3⟩
    have d1 : x / 9 ≤ x := Nat.div_le_self _ _
    have b1 : tA x ≤ 9 := by unfold tA; omega
    have b2 : tB x ≤ 9 := by unfold tB; omega
    have b3 : tC x ≤ 9 := by unfold tC; omega
    have wa := h (tA x) (by unfold tA; omega) b1
    have wb := h (tB x) (by unfold tB; omega) b2
    have wc := h (tC x) (by unfold tC; omega) b3
    simp only [fX6_hasThree_L4, i_lit, nmE]
    simp (disch := omega) only [i_div, i_mod, nI_add]
    rw [if_neg (fun q => by rw [nI_leI (by omega) (by omega)] at q; omega)]
    rw [show x / 81 + 1 = tA x from rfl, show x / 9 % 9 + 1 = tB x from rfl, show x % 9 + 1 = tC x from rfl]
    simp (disch := omega) only [gI_at, wa.1, wb.1, wc.1, nI_leI]
    cases b with
    | true =>
      rw [if_neg (by decide : ¬ fB true = nI 0)]
      exact step true (fun _ => rfl) (fun h => by cases h)
    | false =>
      rw [if_pos fB_f]
      by_cases c1 : tB x ≤ tA x
      · rw [if_pos c1]
        exact step false (fun h => by cases h) (fun _ => ⟨fun h => (by cases h), fun q => by have := q.2.1; omega⟩)
      · rw [if_neg c1]
        by_cases c2 : tC x ≤ tB x
        · rw [if_pos c2]
          exact step false (fun h => by cases h) (fun _ => ⟨fun h => (by cases h), fun q => by have := q.2.2.1; omega⟩)
        · rw [if_neg c2]
          by_cases c3 : w (tC x) ≤ w (tA x)
          · rw [if_pos c3]
            exact step false (fun h => by cases h) (fun _ => ⟨fun h => (by cases h), fun q => by have := q.2.2.2.2.1; omega⟩)
          · rw [if_neg c3]
            by_cases c4 : w (tB x) ≤ w (tC x)
            · rw [if_pos c4]
              exact step false (fun h => by cases h) (fun _ => ⟨fun h => (by cases h), fun q => by have := q.2.2.2.2.2; omega⟩)
            · rw [if_neg c4]
              exact step true (fun _ => rfl) (fun _ => ⟨fun _ => ⟨by unfold tA; omega, by omega, by omega, b3, by omega, by omega⟩, fun _ => rfl⟩)
theorem three_6 {row : Nat → Int32} {w : Nat → Nat} (h : Dg row w) : ((∃ a b c, T3 w a b c) ∧ fX6_hasThree row = some (nI 1)) ∨ ((¬ ∃ a b c, T3 w a b c) ∧ fX6_hasThree row = some (nI 0)) := by
  obtain ⟨b', e1, e2⟩ := three_L h 729 fu 0 false rfl (by rw [fu_s]; omega)
  have e : (∃ a b c, T3 w a b c) ↔ b' = true := by
    rw [e2]
    constructor
    · rintro ⟨a, b, c, q⟩
      refine Or.inr ⟨(a - 1) * 81 + (b - 1) * 9 + (c - 1), Nat.zero_le _, ?_, ?_⟩
      · have := q.1; have := q.2.1; have := q.2.2.1; have := q.2.2.2.1; omega
      · have h1 := q.1; have h2 := q.2.1; have h3 := q.2.2.1; have h4 := q.2.2.2.1
        have x1 : tA ((a - 1) * 81 + (b - 1) * 9 + (c - 1)) = a := by unfold tA; omega
        have x2 : tB ((a - 1) * 81 + (b - 1) * 9 + (c - 1)) = b := by unfold tB; omega
        have x3 : tC ((a - 1) * 81 + (b - 1) * 9 + (c - 1)) = c := by unfold tC; omega
        rw [x1, x2, x3]; exact q
    · rintro (q | ⟨y, _, _, q⟩)
      · cases q
      · exact ⟨_, _, _, q⟩
  have e1' : fX6_hasThree row = some (fB b') := by simp only [fX6_hasThree, i_lit]; exact e1
  rw [e, e1']
  cases b' with
  | true => exact Or.inl ⟨rfl, rfl⟩
  | false => exact Or.inr ⟨by decide, rfl⟩
/-- four places as 2, 1, 4, 3 -/
def T4 (w : Nat → Nat) (a b c d : Nat) : Prop := 1 ≤ a ∧ a < b ∧ b < c ∧ c < d ∧ d ≤ 9 ∧ w b < w a ∧ w a < w d ∧ w d < w c
/-- a fall ahead of a place, below a limit -/
def Fal (w : Nat → Nat) (p y a b : Nat) : Prop := 1 ≤ a ∧ a < b ∧ b < p ∧ w b < w a ∧ w a < y
theorem fall_L {row : Nat → Int32} {w : Nat → Nat} (h : Dg row w) {p y : Nat} (hp : p ≤ 9) (hy : y ≤ 9) : ∀ (m fl j x : Nat), j + m = p → 1 ≤ j → m < fl → x ≤ 9 → (∀ z, z < x ↔ ∃ a, 1 ≤ a ∧ a < j ∧ z < w a ∧ w a < y) → ((∃ a b, Fal w p y a b ∧ j ≤ b) ∧ fX1_hasFallAhead_L5 row (nI p) (nI y) fl (nI x) (nI j) = some (nI 1)) ∨ ((¬ ∃ a b, Fal w p y a b ∧ j ≤ b) ∧ fX1_hasFallAhead_L5 row (nI p) (nI y) fl (nI x) (nI j) = some (nI 0)) := by
  intro m
  induction m with
  | zero =>
    intro fl j x hj h1 hf hx hq
    obtain ⟨fl, rfl⟩ : ∃ q, fl = q + 1 := ⟨fl - 1, by omega⟩
    refine Or.inr ⟨fun ⟨a, b, q1, q2⟩ => by have := q1.2.2.1; omega, ?_⟩
    simp only [fX1_hasFallAhead_L5, i_lit]
    rw [if_pos ((nI_leI (by omega) (by omega)).mpr (by omega))]
  | succ m ih =>
    intro fl j x hj h1 hf hx hq
    obtain ⟨fl, rfl⟩ : ∃ q, fl = q + 1 := ⟨fl - 1, by omega⟩
    have wj := h j h1 (by omega)
    simp only [fX1_hasFallAhead_L5, i_lit, nmE, nI_add, digit_at h h1 (by omega : j ≤ 9), bd_some]
    rw [if_neg (fun q => by rw [nI_leI (by omega) (by omega)] at q; omega)]
    by_cases c1 : x ≤ w j
    · rw [if_pos ((nI_leI (by omega) (by omega)).mpr c1)]
      have e : (∃ a b, Fal w p y a b ∧ j ≤ b) ↔ ∃ a b, Fal w p y a b ∧ j + 1 ≤ b := by
        constructor
        · rintro ⟨a, b, x1, x2⟩
          by_cases eb : b = j
          · subst eb
            have := (hq (w b)).mpr ⟨a, x1.1, x1.2.1, x1.2.2.2.1, x1.2.2.2.2⟩
            omega
          · exact ⟨a, b, x1, by omega⟩
        · rintro ⟨a, b, x1, x2⟩; exact ⟨a, b, x1, by omega⟩
      rw [e]
      by_cases c2 : y ≤ w j
      · rw [if_pos ((nI_leI (by omega) (by omega)).mpr c2)]
        refine ih fl (j + 1) x (by omega) (by omega) (by omega) hx (fun z => ?_)
        rw [hq z]
        constructor
        · rintro ⟨a, q1, q2, q3⟩; exact ⟨a, q1, by omega, q3⟩
        · rintro ⟨a, q1, q2, q3, q4⟩
          by_cases ea : a = j
          · subst ea; omega
          · exact ⟨a, q1, by omega, q3, q4⟩
      · rw [if_neg (fun q => c2 ((nI_leI (by omega) (by omega)).mp q))]
        have ee : (if nI x < nI (w j) then nI (w j) else nI x) = nI (w j) := by
          by_cases hc : x < w j
          · rw [if_pos ((nI_ltI (by omega) (by omega)).mpr hc)]
          · rw [if_neg (fun q => hc ((nI_ltI (by omega) (by omega)).mp q)), show x = w j by omega]
        rw [ee]
        refine ih fl (j + 1) (w j) (by omega) (by omega) (by omega) wj.2.2 (fun z => ?_)
        constructor
        · intro q; exact ⟨j, h1, by omega, q, by omega⟩
        · rintro ⟨a, q1, q2, q3, q4⟩
          by_cases ea : a = j
          · subst ea; exact q3
          · have := (hq z).mpr ⟨a, q1, by omega, q3, q4⟩; omega
    · rw [if_neg (fun q => c1 ((nI_leI (by omega) (by omega)).mp q))]
      obtain ⟨a, q1, q2, q3, q4⟩ := (hq (w j)).mp (by omega)
      exact Or.inl ⟨⟨a, j, ⟨q1, q2, by omega, q3, q4⟩, Nat.le_refl _⟩, rfl⟩
theorem fall_1 {row : Nat → Int32} {w : Nat → Nat} (h : Dg row w) {p y : Nat} (hp1 : 1 ≤ p) (hp : p ≤ 9) (hy : y ≤ 9) : ((∃ a b, Fal w p y a b) ∧ fX1_hasFallAhead row (nI p) (nI y) = some (nI 1)) ∨ ((¬ ∃ a b, Fal w p y a b) ∧ fX1_hasFallAhead row (nI p) (nI y) = some (nI 0)) := by
  have := fall_L h hp hy (p - 1) fu 1 0 (by omega) (by decide) (by rw [fu_s]; omega) (by decide) (fun z => ⟨fun q => by omega, fun ⟨a, q1, q2, _⟩ => by omega⟩)
  have e : (∃ a b, Fal w p y a b ∧ 1 ≤ b) ↔ ∃ a b, Fal w p y a b := by
    constructor
    · rintro ⟨a, b, x, _⟩; exact ⟨a, b, x⟩
    · rintro ⟨a, b, x⟩; exact ⟨a, b, x, by have := x.1; have := x.2.1; omega⟩
  rw [e] at this
  simp only [fX1_hasFallAhead, i_lit]
  exact this
theorem tof_L12 {row : Nat → Int32} {w : Nat → Nat} (h : Dg row w) (rec : Int32 → Option Int32) {c : Nat} (hc : 1 ≤ c) (hc9 : c ≤ 9) : ∀ (m fl d : Nat), d + m = 10 → c < d → m < fl → ((∃ a b d', T4 w a b c d' ∧ d ≤ d') ∧ fX1_hasTwoOneFourThree_L12 row rec fl (nI c) (nI d) = some (nI 1)) ∨ ((¬ ∃ a b d', T4 w a b c d' ∧ d ≤ d') ∧ fX1_hasTwoOneFourThree_L12 row rec fl (nI c) (nI d) = rec (nI (c + 1))) := by
  intro m
  induction m with
  | zero =>
    intro fl d hd hcd hf
    obtain ⟨fl, rfl⟩ : ∃ q, fl = q + 1 := ⟨fl - 1, by omega⟩
    refine Or.inr ⟨fun ⟨a, b, d', q, q2⟩ => by have := q.2.2.2.2.1; omega, ?_⟩
    simp only [fX1_hasTwoOneFourThree_L12, i_lit, nmE, nI_add]
    rw [if_pos ((nI_ltI (by omega) (by omega)).mpr (by omega))]
  | succ m ih =>
    intro fl d hd hcd hf
    obtain ⟨fl, rfl⟩ : ∃ q, fl = q + 1 := ⟨fl - 1, by omega⟩
    have wc := h c hc hc9
    have wd := h d (by omega) (by omega)
    have step : (¬ ∃ a b, T4 w a b c d) → ((∃ a b d', T4 w a b c d' ∧ d ≤ d') ↔ ∃ a b d', T4 w a b c d' ∧ d + 1 ≤ d') := by
      intro hn
      constructor
      · rintro ⟨a, b, d', q1, q2⟩
        by_cases e : d' = d
        · subst e; exact absurd ⟨a, b, q1⟩ hn
        · exact ⟨a, b, d', q1, by omega⟩
      · rintro ⟨a, b, d', q1, q2⟩; exact ⟨a, b, d', q1, by omega⟩
    simp only [fX1_hasTwoOneFourThree_L12, i_lit, nmE, nI_add]
    rw [if_neg (fun q => by rw [nI_ltI (by omega) (by omega)] at q; omega)]
    simp (disch := omega) only [gI_at, wc.1, wd.1, nI_leI]
    by_cases h1 : w c ≤ w d
    · rw [if_pos h1, step (fun ⟨a, b, q⟩ => by have := q.2.2.2.2.2.2.2; omega)]
      exact ih fl (d + 1) (by omega) (by omega) (by omega)
    · rw [if_neg h1]
      rcases fall_1 h hc hc9 wd.2.2 with ⟨⟨a, b, q⟩, e⟩ | ⟨q, e⟩
      · rw [e, bd_some, if_neg (by decide : ¬ nI 1 = nI 0)]
        exact Or.inl ⟨⟨a, b, d, ⟨q.1, q.2.1, q.2.2.1, hcd, by omega, q.2.2.2.1, q.2.2.2.2, by omega⟩, Nat.le_refl _⟩, rfl⟩
      · rw [e, bd_some, if_pos rfl, step (fun ⟨a, b, x⟩ => q ⟨a, b, x.1, x.2.1, x.2.2.1, x.2.2.2.2.2.1, x.2.2.2.2.2.2.1⟩)]
        exact ih fl (d + 1) (by omega) (by omega) (by omega)
theorem tof_L2 {row : Nat → Int32} {w : Nat → Nat} (h : Dg row w) : ∀ (m fl c : Nat), c + m = 9 → 3 ≤ c → m < fl → ((∃ a b c' d, T4 w a b c' d ∧ c ≤ c') ∧ fX1_hasTwoOneFourThree_L2 row fl (nI c) = some (nI 1)) ∨ ((¬ ∃ a b c' d, T4 w a b c' d ∧ c ≤ c') ∧ fX1_hasTwoOneFourThree_L2 row fl (nI c) = some (nI 0)) := by
  intro m
  induction m with
  | zero =>
    intro fl c hc h3 hf
    obtain ⟨fl, rfl⟩ : ∃ q, fl = q + 1 := ⟨fl - 1, by omega⟩
    refine Or.inr ⟨fun ⟨a, b, c', d, q, q3⟩ => by have := q.2.2.2.1; have := q.2.2.2.2.1; omega, ?_⟩
    simp only [fX1_hasTwoOneFourThree_L2, i_lit]
    rw [if_pos ((nI_leI (by omega) (by omega)).mpr (by omega))]
  | succ m ih =>
    intro fl c hc h3 hf
    obtain ⟨fl, rfl⟩ : ∃ q, fl = q + 1 := ⟨fl - 1, by omega⟩
    simp only [fX1_hasTwoOneFourThree_L2, i_lit, nmE, nI_add]
    rw [if_neg (fun q => by rw [nI_leI (by omega) (by omega)] at q; omega)]
    rcases tof_L12 h (fX1_hasTwoOneFourThree_L2 row fl) (by omega : 1 ≤ c) (by omega) (9 - c) fu (c + 1) (by omega) (by omega) (by rw [fu_s]; omega) with ⟨⟨a, b, d, q1, _⟩, q2⟩ | ⟨q1, q2⟩
    · exact Or.inl ⟨⟨a, b, c, d, q1, Nat.le_refl _⟩, q2⟩
    · rw [q2]
      have e : (∃ a b c' d, T4 w a b c' d ∧ c ≤ c') ↔ ∃ a b c' d, T4 w a b c' d ∧ c + 1 ≤ c' := by
        constructor
        · rintro ⟨a, b, c', d, x1, x2⟩
          by_cases ec : c' = c
          · subst ec; exact absurd ⟨a, b, d, x1, by have := x1.2.2.2.1; omega⟩ q1
          · exact ⟨a, b, c', d, x1, by omega⟩
        · rintro ⟨a, b, c', d, x1, x2⟩; exact ⟨a, b, c', d, x1, by omega⟩
      rw [e]
      exact ih fl (c + 1) (by omega) (by omega) (by omega)
theorem tof_1 {row : Nat → Int32} {w : Nat → Nat} (h : Dg row w) : ((∃ a b c d, T4 w a b c d) ∧ fX1_hasTwoOneFourThree row = some (nI 1)) ∨ ((¬ ∃ a b c d, T4 w a b c d) ∧ fX1_hasTwoOneFourThree row = some (nI 0)) := by
  have := tof_L2 h 6 fu 3 (by omega) (by decide) (by rw [fu_s]; omega)
  have e : (∃ a b c' d, T4 w a b c' d ∧ 3 ≤ c') ↔ ∃ a b c d, T4 w a b c d := by
    constructor
    · rintro ⟨a, b, c, d, x, _⟩; exact ⟨a, b, c, d, x⟩
    · rintro ⟨a, b, c, d, x⟩; exact ⟨a, b, c, d, x, by have := x.1; have := x.2.1; have := x.2.2.1; omega⟩
  rw [e] at this
  simp only [fX1_hasTwoOneFourThree, i_lit]
  exact this
def uA (x : Nat) : Nat := x / 729 + 1
def uB (x : Nat) : Nat := x / 81 % 9 + 1
theorem four_L {row : Nat → Int32} {w : Nat → Nat} (h : Dg row w) : ∀ (m fl x : Nat) (b : Bool), x + m = 6561 → m < fl → ∃ b', fX6_hasFour_L4 row fl (fB b) (nI x) = some (fB b') ∧ (b' = true ↔ b = true ∨ ∃ y, x ≤ y ∧ y < 6561 ∧ T4 w (uA y) (uB y) (tB y) (tC y)) := by
  intro m
  induction m with
  | zero =>
    intro fl x b hx hf
    obtain ⟨fl, rfl⟩ : ∃ q, fl = q + 1 := ⟨fl - 1, by omega⟩
    refine ⟨b, ?_, ⟨Or.inl, fun h => ?_⟩⟩
    · simp only [fX6_hasFour_L4, i_lit]
      rw [if_pos ((nI_leI (by omega) (by omega)).mpr (by omega))]
      cases b
      · exact bz_0 _
      · exact bz_1 _
    · rcases h with h | ⟨y, h1, h2, _⟩
      · exact h
      · omega
  | succ m ih =>
    intro fl x b hx hf
    obtain ⟨fl, rfl⟩ : ∃ q, fl = q + 1 := ⟨fl - 1, by omega⟩
    have step : ∀ bb : Bool, (b = true → bb = true) → (b = false → (bb = true ↔ T4 w (uA x) (uB x) (tB x) (tC x))) → ∃ b', fX6_hasFour_L4 row fl (fB bb) (nI (x + 1)) = some (fB b') ∧ (b' = true ↔ b = true ∨ ∃ y, x ≤ y ∧ y < 6561 ∧ T4 w (uA y) (uB y) (tB y) (tC y)) := by
      intro bb h1 h2
      obtain ⟨b', e1, e2⟩ := ih fl (x + 1) bb (by omega) (by omega)
      refine ⟨b', e1, ?_⟩
      rw [e2]
      cases b with
      | true => simp [h1 rfl]
      | false =>
        constructor
        · rintro (q | ⟨y, q1, q2, q3⟩)
          · exact Or.inr ⟨x, Nat.le_refl _, by omega, (h2 rfl).mp q⟩
          · exact Or.inr ⟨y, by omega, q2, q3⟩
        · rintro (q | ⟨y, q1, q2, q3⟩)
          · cases q
          · by_cases e : y = x
            · subst e; exact Or.inl ((h2 rfl).mpr q3)
            · exact Or.inr ⟨y, by omega, q2, q3⟩
    have no : (T4 w (uA x) (uB x) (tB x) (tC x) → False) → ∃ b', fX6_hasFour_L4 row fl (nI 0) (nI (x + 1)) = some (fB b') ∧ (b' = true ↔ b = true ∨ ∃ y, x ≤ y ∧ y < 6561 ∧ T4 w (uA y) (uB y) (tB y) (tC y)) ∨ b = true := by
      intro hn
      cases b with
      | true => exact ⟨true, Or.inr rfl⟩
      | false =>
        obtain ⟨b', e1, e2⟩ := step false (fun h => by cases h) (fun _ => ⟨fun h => (by cases h), fun q => (hn q).elim⟩)
        exact ⟨b', Or.inl ⟨e1, e2⟩⟩
    have d1 : x / 9 ≤ x := Nat.div_le_self _ _
    have d2 : x / 81 ≤ x := Nat.div_le_self _ _
    have b1 : uA x ≤ 9 := by unfold uA; omega
    have b2 : uB x ≤ 9 := by unfold uB; omega
    have b3 : tB x ≤ 9 := by unfold tB; omega
    have b4 : tC x ≤ 9 := by unfold tC; omega
    have wa := h (uA x) (by unfold uA; omega) b1
    have wb := h (uB x) (by unfold uB; omega) b2
    have wc := h (tB x) (by unfold tB; omega) b3
    have wd := h (tC x) (by unfold tC; omega) b4
    simp only [fX6_hasFour_L4, i_lit, nmE]
    simp (disch := omega) only [i_div, i_mod, nI_add]
    rw [if_neg (fun q => by rw [nI_leI (by omega) (by omega)] at q; omega)]
    rw [show x / 729 + 1 = uA x from rfl, show x / 81 % 9 + 1 = uB x from rfl, show x / 9 % 9 + 1 = tB x from rfl, show x % 9 + 1 = tC x from rfl]
    simp (disch := omega) only [gI_at, wa.1, wb.1, wc.1, wd.1, nI_leI]
    cases b with
    | true =>
      rw [if_neg (by decide : ¬ fB true = nI 0)]
      exact step true (fun _ => rfl) (fun h => by cases h)
    | false =>
      rw [if_pos fB_f]
      have no' : (T4 w (uA x) (uB x) (tB x) (tC x) → False) → ∃ b', fX6_hasFour_L4 row fl (nI 0) (nI (x + 1)) = some (fB b') ∧ (b' = true ↔ false = true ∨ ∃ y, x ≤ y ∧ y < 6561 ∧ T4 w (uA y) (uB y) (tB y) (tC y)) := by
        intro hn
        exact step false (fun h => by cases h) (fun _ => ⟨fun h => (by cases h), fun q => (hn q).elim⟩)
      by_cases c1 : uB x ≤ uA x
      · rw [if_pos c1]; exact no' (fun q => by have := q.2.1; omega)
      · rw [if_neg c1]
        by_cases c2 : tB x ≤ uB x
        · rw [if_pos c2]; exact no' (fun q => by have := q.2.2.1; omega)
        · rw [if_neg c2]
          by_cases c3 : tC x ≤ tB x
          · rw [if_pos c3]; exact no' (fun q => by have := q.2.2.2.1; omega)
          · rw [if_neg c3]
            by_cases c4 : w (uA x) ≤ w (uB x)
            · rw [if_pos c4]; exact no' (fun q => by have := q.2.2.2.2.2.1; omega)
            · rw [if_neg c4]
              by_cases c5 : w (tC x) ≤ w (uA x)
              · rw [if_pos c5]; exact no' (fun q => by have := q.2.2.2.2.2.2.1; omega)
              · rw [if_neg c5]
                by_cases c6 : w (tB x) ≤ w (tC x)
                · rw [if_pos c6]; exact no' (fun q => by have := q.2.2.2.2.2.2.2; omega)
                · rw [if_neg c6]
                  exact step true (fun _ => rfl) (fun _ => ⟨fun _ => ⟨by unfold uA; omega, by omega, by omega, by omega, b4, by omega, by omega, by omega⟩, fun _ => rfl⟩)
theorem four_6 {row : Nat → Int32} {w : Nat → Nat} (h : Dg row w) : ((∃ a b c d, T4 w a b c d) ∧ fX6_hasFour row = some (nI 1)) ∨ ((¬ ∃ a b c d, T4 w a b c d) ∧ fX6_hasFour row = some (nI 0)) := by
  obtain ⟨b', e1, e2⟩ := four_L h 6561 fu 0 false rfl (by rw [fu_s]; omega)
  have e : (∃ a b c d, T4 w a b c d) ↔ b' = true := by
    rw [e2]
    constructor
    · rintro ⟨a, b, c, d, q⟩
      have h1 := q.1; have h2 := q.2.1; have h3 := q.2.2.1; have h4 := q.2.2.2.1; have h5 := q.2.2.2.2.1
      refine Or.inr ⟨(a - 1) * 729 + (b - 1) * 81 + (c - 1) * 9 + (d - 1), Nat.zero_le _, by omega, ?_⟩
      have x1 : uA ((a - 1) * 729 + (b - 1) * 81 + (c - 1) * 9 + (d - 1)) = a := by unfold uA; omega
      have x2 : uB ((a - 1) * 729 + (b - 1) * 81 + (c - 1) * 9 + (d - 1)) = b := by unfold uB; omega
      have x3 : tB ((a - 1) * 729 + (b - 1) * 81 + (c - 1) * 9 + (d - 1)) = c := by unfold tB; omega
      have x4 : tC ((a - 1) * 729 + (b - 1) * 81 + (c - 1) * 9 + (d - 1)) = d := by unfold tC; omega
      rw [x1, x2, x3, x4]; exact q
    · rintro (q | ⟨y, _, _, q⟩)
      · cases q
      · exact ⟨_, _, _, _, q⟩
  have e1' : fX6_hasFour row = some (fB b') := by simp only [fX6_hasFour, i_lit]; exact e1
  rw [e, e1']
  cases b' with
  | true => exact Or.inl ⟨rfl, rfl⟩
  | false => exact Or.inr ⟨by decide, rfl⟩
theorem oq_avoids (k1 k2 : Nat → Int32) (a1 a2 : Int32) : ∃ (r5 : Int32 × (Nat → Int32)) (r6 : Int32 × (Nat → Int32)), fX5_avoids k1 a1 a2 = some r5 ∧ fX6_avoids k2 a1 a2 = some r6 ∧ r5.1 = r6.1 := by
  obtain ⟨b, ra, rb, e1, e2, hp⟩ := read_lays k1 k2 a1
  cases b with
  | false =>
    refine ⟨(-nI 2, ra), (-nI 2, rb), ?_, ?_, rfl⟩
    · simp only [fX5_avoids, e1, bd_some, i_lit]; rw [if_pos fB_f]
    · simp only [fX6_avoids, e2, bd_some, i_lit]; rw [if_pos fB_f]
  | true =>
    obtain ⟨w, h1, h2, h3⟩ := hp rfl
    have ht : ¬ fB true = nI 0 := by decide
    rcases i_range a2 1 2 (by decide) (by decide) with h | ⟨k, hk1, hk2, rfl⟩
    · refine ⟨(-nI 2, ra), (-nI 2, rb), ?_, ?_, rfl⟩
      · simp only [fX5_avoids, e1, bd_some, i_lit]
        rw [if_neg ht]
        by_cases h4 : a2 < nI 1
        · rw [if_pos h4]
        · rw [if_neg h4]
          have h5 : nI 2 < a2 := by
            rcases h with h | h
            · exact absurd h h4
            · exact h
          rw [if_neg (i_nle h5)]
      · simp only [fX6_avoids, e2, bd_some, i_lit, within_6]
        rw [if_neg ht, if_pos h, if_pos rfl]
    · have c1 : ¬ nI k < nI 1 := by rw [nI_ltI (by omega) (by omega)]; omega
      have c2 : nI k ≤ nI 2 := by rw [nI_leI (by omega) (by omega)]; omega
      have c3 : ¬ (nI k < nI 1 ∨ nI 2 < nI k) := by rw [nI_ltI (by omega) (by omega), nI_ltI (by omega) (by omega)]; omega
      have five : fX5_avoids k1 a1 (nI k) = (if nI k = nI 1 then bd (fX1_hasLeastGreatestMiddle ra) (fun r3 => fX5_avoids_b46 a1 (nI k) ra r3) else bd (fX1_hasTwoOneFourThree ra) (fun r2 => fX5_avoids_b46 a1 (nI k) ra r2)) := by
        simp only [fX5_avoids, e1, bd_some, i_lit]
        rw [if_neg ht, if_neg c1, if_pos c2]
      have six : fX6_avoids k2 a1 (nI k) = (if nI k = nI 1 then bd (fX6_hasThree rb) (fun r4 => fX6_avoids_b45 a1 (nI k) rb r4) else bd (fX6_hasFour rb) (fun r3 => fX6_avoids_b45 a1 (nI k) rb r3)) := by
        simp only [fX6_avoids, e2, bd_some, i_lit, within_6]
        rw [if_neg ht, if_neg c3, if_neg (by decide : ¬ nI 1 = nI 0)]
      have b5 : ∀ b, fX5_avoids_b46 a1 (nI k) ra (fB b) = some (fB (!b), ra) := fun b => by cases b <;> rfl
      have b6 : ∀ b, fX6_avoids_b45 a1 (nI k) rb (fB b) = some (fB (!b), rb) := fun b => by cases b <;> rfl
      rw [five, six]
      by_cases hk : nI k = nI 1
      · rw [if_pos hk, if_pos hk]
        rcases lgm_1 h1 with ⟨q1, q2⟩ | ⟨q1, q2⟩ <;> rcases three_6 h2 with ⟨p1, p2⟩ | ⟨p1, p2⟩
        · rw [q2, p2]; exact ⟨_, _, b5 true, b6 true, rfl⟩
        · exact absurd q1 p1
        · exact absurd p1 q1
        · rw [q2, p2]; exact ⟨_, _, b5 false, b6 false, rfl⟩
      · rw [if_neg hk, if_neg hk]
        rcases tof_1 h1 with ⟨q1, q2⟩ | ⟨q1, q2⟩ <;> rcases four_6 h2 with ⟨p1, p2⟩ | ⟨p1, p2⟩
        · rw [q2, p2]; exact ⟨_, _, b5 true, b6 true, rfl⟩
        · exact absurd q1 p1
        · exact absurd p1 q1
        · rw [q2, p2]; exact ⟨_, _, b5 false, b6 false, rfl⟩
