/-! ===== shapes, patterns ===== -/
def bc (m : Nat) : Nat := m % 2 + m / 2 % 2 + m / 4 % 2 + m / 8 % 2 + m / 16 % 2 + m / 32 % 2 + m / 64 % 2 + m / 128 % 2 + m / 256 % 2 + m / 512 % 2
theorem bitCount_J : ∀ m, m < 1024 → fJ6_bitCount_0f7a4 (nI m) = some (nI (bc m)) := by decide +kernel
theorem bc_one : ∀ s, s < 512 → ((nI (bc s) = nI 1) ↔ (¬ nI s = nI 0 ∧ nI s &&& (nI s - nI 1) = nI 0)) := by decide +kernel
theorem oq_shape (k1 k2 : Nat → Int32) (a1 a2 : Int32) : ∃ (r5 : Int32 × (Nat → Int32)) (r6 : Int32 × (Nat → Int32)), fX5_shape k1 a1 a2 = some r5 ∧ fX6_shape k2 a1 a2 = some r6 ∧ r5.1 = r6.1 := by
  obtain ⟨b, ra, rb, e1, e2, hp⟩ := read_lays k1 k2 a1
  cases b with
  | false =>
    refine ⟨(-nI 2, ra), (-nI 2, rb), ?_, ?_, rfl⟩
    · simp only [fX5_shape, e1, bd_some, i_lit]; rw [if_pos fB_f]
    · simp only [fX6_shape, e2, bd_some, i_lit]; rw [if_pos fB_f]
  | true =>
    obtain ⟨w, h1, h2, h3⟩ := hp rfl
    have ht : ¬ fB true = nI 0 := by decide
    have hfit := fit_iff w
    have hdn := dn_iff w
    by_cases hk : nI 1 ≤ a2
    · by_cases hb : nI (bc (dset w)) = nI 1
      · obtain ⟨c1, c2⟩ := (bc_one (dset w) hfit.2.1).mp hb
        have hz2 : dset w ≠ 0 := fun h => c1 (by rw [h])
        have hz : dlast w ≠ 0 := fun h => hz2 (hdn.2.mpr (by rw [← hdn.1]; exact h))
        obtain ⟨k, hk2, rfl⟩ := nI_of (x := a2) (fun h => by
          rw [Int32.le_iff_toInt_le, nI_toInt (by decide)] at hk
          rw [Int32.lt_iff_toInt_lt] at h
          have e0 : (0 : Int32).toInt = 0 := by decide
          omega)
        rw [nI_leI (by decide) hk2] at hk
        by_cases hkr : k ≤ dlast w
        · have wp := h1 (dlast w + 1 - k) (by omega) (by omega)
          have wq := h2 (dlast w + 1 - k) (by omega) (by omega)
          refine ⟨(nI (w (dlast w + 1 - k)) - nI (dlast w + 1 - k), ra), (nI (w (dlast w + 1 - k)) - nI (dlast w + 1 - k), rb), ?_, ?_, rfl⟩
          · simp only [fX5_shape, e1, bd_some, i_lit, descentSet_1 h1, bitCount_J (dset w) (by omega), lastDescent_1 h1, nmE, nI_add]
            rw [i_dif (by omega : k ≤ dlast w + 1), digit_at h1 (by omega : 1 ≤ dlast w + 1 - k) (by omega), bd_some, if_neg ht, if_pos ((nI_leI (by decide) hk2).mpr hk), if_pos hb, if_pos ((nI_leI hk2 (by omega)).mpr hkr)]
          · simp only [fX6_shape, e2, bd_some, i_lit, descentsOf_6 h2, lastD_6 h2 h3 hz, nI_add]
            rw [i_dif (by omega : k ≤ dlast w + 1), gI_at (by omega) (by decide), wq.1, if_neg ht, if_pos ((nI_leI (by decide) hk2).mpr hk), if_neg c1, if_pos c2, if_neg (fun h => by rw [nI_ltI (by omega) hk2] at h; omega)]
        · refine ⟨(-nI 9, ra), (-nI 9, rb), ?_, ?_, rfl⟩
          · simp only [fX5_shape, e1, bd_some, i_lit, descentSet_1 h1, bitCount_J (dset w) (by omega), lastDescent_1 h1]
            rw [if_neg ht, if_pos ((nI_leI (by decide) hk2).mpr hk), if_pos hb, if_neg (fun h => by rw [nI_leI hk2 (by omega)] at h; omega)]
          · simp only [fX6_shape, e2, bd_some, i_lit, descentsOf_6 h2, lastD_6 h2 h3 hz]
            rw [if_neg ht, if_pos ((nI_leI (by decide) hk2).mpr hk), if_neg c1, if_pos c2, if_pos ((nI_ltI (by omega) hk2).mpr (by omega))]
      · refine ⟨(-nI 3, ra), (-nI 3, rb), ?_, ?_, rfl⟩
        · simp only [fX5_shape, e1, bd_some, i_lit, descentSet_1 h1, bitCount_J (dset w) (by omega)]
          rw [if_neg ht, if_pos hk, if_neg hb]
        · simp only [fX6_shape, e2, bd_some, i_lit, descentsOf_6 h2]
          rw [if_neg ht, if_pos hk]
          by_cases c1 : nI (dset w) = nI 0
          · rw [if_pos c1]
          · rw [if_neg c1]
            by_cases c2 : nI (dset w) &&& (nI (dset w) - nI 1) = nI 0
            · exact absurd ((bc_one (dset w) hfit.2.1).mpr ⟨c1, c2⟩) hb
            · rw [if_neg c2]
    · refine ⟨(-nI 2, ra), (-nI 2, rb), ?_, ?_, rfl⟩
      · simp only [fX5_shape, e1, bd_some, i_lit]; rw [if_neg ht, if_neg hk]
      · simp only [fX6_shape, e2, bd_some, i_lit]; rw [if_neg ht, if_neg hk]
/-- three places with the least, the greatest, the middle -/
def T3 (w : Nat → Nat) (a b c : Nat) : Prop := 1 ≤ a ∧ a < b ∧ b < c ∧ c ≤ 9 ∧ w a < w c ∧ w c < w b
theorem least_L {row : Nat → Int32} {w : Nat → Nat} (h : Dg row w) {b : Nat} (hb : b ≤ 9) : ∀ (m fl j x : Nat), j + m = b → 1 ≤ j → m < fl → x ≤ 10 → ∃ v, v ≤ 10 ∧ fX1_leastAhead_L5 row (nI b) fl (nI x) (nI j) = some (nI v) ∧ ∀ y, v < y ↔ (x < y ∨ ∃ a, j ≤ a ∧ a < b ∧ w a < y) := by
  intro m
  induction m with
  | zero =>
    intro fl j x hj h1 hf hx
    obtain ⟨fl, rfl⟩ : ∃ q, fl = q + 1 := ⟨fl - 1, by omega⟩
    refine ⟨x, hx, ?_, fun y => ⟨fun h => Or.inl h, fun h => ?_⟩⟩
    · simp only [fX1_leastAhead_L5, i_lit]
      rw [if_pos ((nI_leI (by omega) (by omega)).mpr (by omega))]
    · rcases h with h | ⟨a, h2, h3, _⟩
      · exact h
      · omega
  | succ m ih =>
    intro fl j x hj h1 hf hx
    obtain ⟨fl, rfl⟩ : ∃ q, fl = q + 1 := ⟨fl - 1, by omega⟩
    have wj := h j h1 (by omega)
    obtain ⟨v, v0, v1, v2⟩ := ih fl (j + 1) (if w j < x then w j else x) (by omega) (by omega) (by omega) (by split <;> omega)
    refine ⟨v, v0, ?_, fun y => ?_⟩
    · simp only [fX1_leastAhead_L5, i_lit, nmE, nI_add, digit_at h h1 (by omega : j ≤ 9), bd_some]
      rw [if_neg (fun q => by rw [nI_leI (by omega) (by omega)] at q; omega)]
      have e : (if nI (w j) < nI x then nI (w j) else nI x) = nI (if w j < x then w j else x) := by
        by_cases hc : w j < x
        · rw [if_pos ((nI_ltI (by omega) (by omega)).mpr hc), if_pos hc]
        · rw [if_neg (fun q => hc ((nI_ltI (by omega) (by omega)).mp q)), if_neg hc]
      rw [e]
      exact v1
    · rw [v2 y]
      constructor
      · rintro (q | ⟨a, q1, q2, q3⟩)
        · split at q
          · exact Or.inr ⟨j, Nat.le_refl _, by omega, q⟩
          · exact Or.inl q
        · exact Or.inr ⟨a, by omega, q2, q3⟩
      · rintro (q | ⟨a, q1, q2, q3⟩)
        · left; split <;> omega
        · by_cases ea : a = j
          · subst ea; left; split <;> omega
          · exact Or.inr ⟨a, by omega, q2, q3⟩
theorem least_1 {row : Nat → Int32} {w : Nat → Nat} (h : Dg row w) {b : Nat} (h1 : 1 ≤ b) (hb : b ≤ 9) : ∃ v, v ≤ 10 ∧ fX1_leastAhead row (nI b) = some (nI v) ∧ ∀ y, y ≤ 10 → (v < y ↔ ∃ a, 1 ≤ a ∧ a < b ∧ w a < y) := by
  obtain ⟨v, v0, v1, v2⟩ := least_L h hb (b - 1) fu 1 10 (by omega) (by decide) (by rw [fu_s]; omega) (Nat.le_refl _)
  refine ⟨v, v0, by simp only [fX1_leastAhead, i_lit]; exact v1, fun y hy => ?_⟩
  rw [v2 y]
  constructor
  · rintro (q | q)
    · omega
    · exact q
  · exact Or.inr
theorem lgm_L12 {row : Nat → Int32} {w : Nat → Nat} (h : Dg row w) (rec : Int32 → Option Int32) {b : Nat} (hb : 1 ≤ b) (hb9 : b ≤ 9) : ∀ (m fl c : Nat), c + m = 10 → b < c → m < fl → ((∃ a c', T3 w a b c' ∧ c ≤ c') ∧ fX1_hasLeastGreatestMiddle_L12 row rec fl (nI b) (nI c) = some (nI 1)) ∨ ((¬ ∃ a c', T3 w a b c' ∧ c ≤ c') ∧ fX1_hasLeastGreatestMiddle_L12 row rec fl (nI b) (nI c) = rec (nI (b + 1))) := by
  intro m
  induction m with
  | zero =>
    intro fl c hc hbc hf
    obtain ⟨fl, rfl⟩ : ∃ q, fl = q + 1 := ⟨fl - 1, by omega⟩
    refine Or.inr ⟨fun ⟨a, c', ⟨_, _, _, q, _⟩, q2⟩ => by omega, ?_⟩
    simp only [fX1_hasLeastGreatestMiddle_L12, i_lit, nmE, nI_add]
    rw [if_pos ((nI_ltI (by omega) (by omega)).mpr (by omega))]
  | succ m ih =>
    intro fl c hc hbc hf
    obtain ⟨fl, rfl⟩ : ∃ q, fl = q + 1 := ⟨fl - 1, by omega⟩
    have wb := h b hb hb9
    have wc := h c (by omega) (by omega)
    obtain ⟨v, v0, v1, v2⟩ := least_1 h hb hb9
    have step : (¬ ∃ a, T3 w a b c) → ((∃ a c', T3 w a b c' ∧ c ≤ c') ↔ ∃ a c', T3 w a b c' ∧ c + 1 ≤ c') := by
      intro hn
      constructor
      · rintro ⟨a, c', q1, q2⟩
        by_cases e : c' = c
        · subst e; exact absurd ⟨a, q1⟩ hn
        · exact ⟨a, c', q1, by omega⟩
      · rintro ⟨a, c', q1, q2⟩; exact ⟨a, c', q1, by omega⟩
    simp only [fX1_hasLeastGreatestMiddle_L12, i_lit, nmE, nI_add, v1, bd_some]
    rw [if_neg (fun q => by rw [nI_ltI (by omega) (by omega)] at q; omega)]
    simp (disch := omega) only [gI_at, wb.1, wc.1, nI_leI]
    by_cases h1 : w b ≤ w c
    · rw [if_pos h1, step (fun ⟨a, _, _, _, _, _, q⟩ => by omega)]
      exact ih fl (c + 1) (by omega) (by omega) (by omega)
    · rw [if_neg h1]
      by_cases h2 : w c ≤ v
      · rw [if_pos h2, step (fun ⟨a, q1, q2, _, _, q5, _⟩ => by
          have := (v2 (w c) (by omega)).mpr ⟨a, q1, q2, q5⟩
          omega)]
        exact ih fl (c + 1) (by omega) (by omega) (by omega)
      · rw [if_neg h2]
        obtain ⟨a, q1, q2, q3⟩ := (v2 (w c) (by omega)).mp (by omega)
        exact Or.inl ⟨⟨a, c, ⟨q1, q2, hbc, by omega, q3, by omega⟩, Nat.le_refl _⟩, rfl⟩
theorem lgm_L2 {row : Nat → Int32} {w : Nat → Nat} (h : Dg row w) : ∀ (m fl b : Nat), b + m = 9 → 2 ≤ b → m < fl → ((∃ a b' c, T3 w a b' c ∧ b ≤ b') ∧ fX1_hasLeastGreatestMiddle_L2 row fl (nI b) = some (nI 1)) ∨ ((¬ ∃ a b' c, T3 w a b' c ∧ b ≤ b') ∧ fX1_hasLeastGreatestMiddle_L2 row fl (nI b) = some (nI 0)) := by
  intro m
  induction m with
  | zero =>
    intro fl b hb h2 hf
    obtain ⟨fl, rfl⟩ : ∃ q, fl = q + 1 := ⟨fl - 1, by omega⟩
    refine Or.inr ⟨fun ⟨a, b', c, ⟨_, _, q1, q2, _⟩, q3⟩ => by omega, ?_⟩
    simp only [fX1_hasLeastGreatestMiddle_L2, i_lit]
    rw [if_pos ((nI_leI (by omega) (by omega)).mpr (by omega))]
  | succ m ih =>
    intro fl b hb h2 hf
    obtain ⟨fl, rfl⟩ : ∃ q, fl = q + 1 := ⟨fl - 1, by omega⟩
    simp only [fX1_hasLeastGreatestMiddle_L2, i_lit, nmE, nI_add]
    rw [if_neg (fun q => by rw [nI_leI (by omega) (by omega)] at q; omega)]
    rcases lgm_L12 h (fX1_hasLeastGreatestMiddle_L2 row fl) (by omega : 1 ≤ b) (by omega) (9 - b) fu (b + 1) (by omega) (by omega) (by rw [fu_s]; omega) with ⟨⟨a, c, q1, _⟩, q2⟩ | ⟨q1, q2⟩
    · exact Or.inl ⟨⟨a, b, c, q1, Nat.le_refl _⟩, q2⟩
    · rw [q2]
      have e : (∃ a b' c, T3 w a b' c ∧ b ≤ b') ↔ ∃ a b' c, T3 w a b' c ∧ b + 1 ≤ b' := by
        constructor
        · rintro ⟨a, b', c, x1, x2⟩
          by_cases eb : b' = b
          · subst eb; exact absurd ⟨a, c, x1, by have := x1.2.2.1; omega⟩ q1
          · exact ⟨a, b', c, x1, by omega⟩
        · rintro ⟨a, b', c, x1, x2⟩; exact ⟨a, b', c, x1, by omega⟩
      rw [e]
      exact ih fl (b + 1) (by omega) (by omega) (by omega)
theorem lgm_1 {row : Nat → Int32} {w : Nat → Nat} (h : Dg row w) : ((∃ a b c, T3 w a b c) ∧ fX1_hasLeastGreatestMiddle row = some (nI 1)) ∨ ((¬ ∃ a b c, T3 w a b c) ∧ fX1_hasLeastGreatestMiddle row = some (nI 0)) := by
  have := lgm_L2 h 7 fu 2 (by omega) (by decide) (by rw [fu_s]; omega)
  have e : (∃ a b' c, T3 w a b' c ∧ 2 ≤ b') ↔ ∃ a b c, T3 w a b c := by
    constructor
    · rintro ⟨a, b, c, x, _⟩; exact ⟨a, b, c, x⟩
    · rintro ⟨a, b, c, x⟩; exact ⟨a, b, c, x, by have := x.1; have := x.2.1; omega⟩
  rw [e] at this
  simp only [fX1_hasLeastGreatestMiddle, i_lit]
  exact this
/-- the places of x -/
def tA (x : Nat) : Nat := x / 81 + 1
def tB (x : Nat) : Nat := x / 9 % 9 + 1
def tC (x : Nat) : Nat := x % 9 + 1
theorem three_L {row : Nat → Int32} {w : Nat → Nat} (h : Dg row w) : ∀ (m fl x : Nat) (b : Bool), x + m = 729 → m < fl → ∃ b', fX6_hasThree_L4 row fl (fB b) (nI x) = some (fB b') ∧ (b' = true ↔ b = true ∨ ∃ y, x ≤ y ∧ y < 729 ∧ T3 w (tA y) (tB y) (tC y)) := by
  intro m
  induction m with
  | zero =>
    intro fl x b hx hf
    obtain ⟨fl, rfl⟩ : ∃ q, fl = q + 1 := ⟨fl - 1, by omega⟩
    refine ⟨b, ?_, ⟨Or.inl, fun h => ?_⟩⟩
    · simp only [fX6_hasThree_L4, i_lit]
      rw [if_pos ((nI_leI (by omega) (by omega)).mpr (by omega))]
      cases b
      · exact bz_0 _
      · exact bz_1 _
    · rcases h with h | ⟨y, h1, h2, _⟩
      · exact h
      · omega
  | succ m ih =>
    intro fl x b hx hf
    obtain ⟨fl, rfl⟩ : ∃ q, fl = q + 1 := ⟨fl - 1, by omega⟩
    have step : ∀ bb : Bool, (b = true → bb = true) → (b = false → (bb = true ↔ T3 w (tA x) (tB x) (tC x))) → ∃ b', fX6_hasThree_L4 row fl (fB bb) (nI (x + 1)) = some (fB b') ∧ (b' = true ↔ b = true ∨ ∃ y, x ≤ y ∧ y < 729 ∧ T3 w (tA y) (tB y) (tC y)) := by
      intro bb h1 h2
      obtain ⟨b', e1, e2⟩ := ih fl (x + 1) bb (by omega) (by omega)
      refine ⟨b', e1, ?_⟩
      rw [e2]
      cases b with
      | true => simp [h1 rfl]
      | false =>
        constructor
        · rintro (q | ⟨y, q1, q2, q3⟩)
          · exact Or.inr ⟨x, Nat.le_refl _, by omega, (h2 rfl).mp q⟩
          · exact Or.inr ⟨y, by omega, q2, q3⟩
        · rintro (q | ⟨y, q1, q2, q3⟩)
          · cases q
          · by_cases e : y = x
            · subst e; exact Or.inl ((h2 rfl).mpr q3)
            · exact Or.inr ⟨y, by omega, q2, q3⟩
    have d1 : x / 9 ≤ x := Nat.div_le_self _ _
    have b1 : tA x ≤ 9 := by unfold tA; omega
    have b2 : tB x ≤ 9 := by unfold tB; omega
    have b3 : tC x ≤ 9 := by unfold tC; omega
    have wa := h (tA x) (by unfold tA; omega) b1
    have wb := h (tB x) (by unfold tB; omega) b2
    have wc := h (tC x) (by unfold tC; omega) b3
    simp only [fX6_hasThree_L4, i_lit, nmE]
    simp (disch := omega) only [i_div, i_mod, nI_add]
    rw [if_neg (fun q => by rw [nI_leI (by omega) (by omega)] at q; omega)]
    rw [show x / 81 + 1 = tA x from rfl, show x / 9 % 9 + 1 = tB x from rfl, show x % 9 + 1 = tC x from rfl]
    simp (disch := omega) only [gI_at, wa.1, wb.1, wc.1, nI_leI]
    cases b with
    | true =>
      rw [if_neg (by decide : ¬ fB true = nI 0)]
      exact step true (fun _ => rfl) (fun h => by cases h)
    | false =>
      rw [if_pos fB_f]
      by_cases c1 : tB x ≤ tA x
      · rw [if_pos c1]
        exact step false (fun h => by cases h) (fun _ => ⟨fun h => by cases h, fun q => by have := q.2.1; omega⟩)
      · rw [if_neg c1]
        by_cases c2 : tC x ≤ tB x
        · rw [if_pos c2]
          exact step false (fun h => by cases h) (fun _ => ⟨fun h => by cases h, fun q => by have := q.2.2.1; omega⟩)
        · rw [if_neg c2]
          by_cases c3 : w (tC x) ≤ w (tA x)
          · rw [if_pos c3]
            exact step false (fun h => by cases h) (fun _ => ⟨fun h => by cases h, fun q => by have := q.2.2.2.2.1; omega⟩)
          · rw [if_neg c3]
            by_cases c4 : w (tB x) ≤ w (tC x)
            · rw [if_pos c4]
              exact step false (fun h => by cases h) (fun _ => ⟨fun h => by cases h, fun q => by have := q.2.2.2.2.2; omega⟩)
            · rw [if_neg c4]
              exact step true (fun _ => rfl) (fun _ => ⟨fun _ => ⟨by unfold tA; omega, by omega, by omega, b3, by omega, by omega⟩, fun _ => rfl⟩)
theorem three_6 {row : Nat → Int32} {w : Nat → Nat} (h : Dg row w) : ((∃ a b c, T3 w a b c) ∧ fX6_hasThree row = some (nI 1)) ∨ ((¬ ∃ a b c, T3 w a b c) ∧ fX6_hasThree row = some (nI 0)) := by
  obtain ⟨b', e1, e2⟩ := three_L h 729 fu 0 false rfl (by rw [fu_s]; omega)
  have e : (∃ a b c, T3 w a b c) ↔ b' = true := by
    rw [e2]
    constructor
    · rintro ⟨a, b, c, q⟩
      refine Or.inr ⟨(a - 1) * 81 + (b - 1) * 9 + (c - 1), Nat.zero_le _, ?_, ?_⟩
      · have := q.1; have := q.2.1; have := q.2.2.1; have := q.2.2.2.1; omega
      · have h1 := q.1; have h2 := q.2.1; have h3 := q.2.2.1; have h4 := q.2.2.2.1
        have x1 : tA ((a - 1) * 81 + (b - 1) * 9 + (c - 1)) = a := by unfold tA; omega
        have x2 : tB ((a - 1) * 81 + (b - 1) * 9 + (c - 1)) = b := by unfold tB; omega
        have x3 : tC ((a - 1) * 81 + (b - 1) * 9 + (c - 1)) = c := by unfold tC; omega
        rw [x1, x2, x3]; exact q
    · rintro (q | ⟨y, _, _, q⟩)
      · cases q
      · exact ⟨_, _, _, q⟩
  have e1' : fX6_hasThree row = some (fB b') := by simp only [fX6_hasThree, i_lit]; exact e1
  rw [e, e1']
  cases b' with
  | true => exact Or.inl ⟨rfl, rfl⟩
  | false => exact Or.inr ⟨by decide, rfl⟩
