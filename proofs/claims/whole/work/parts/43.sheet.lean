/-! ===== limits; the sheet is taken; wipe, add, difference ===== -/
theorem lgt (x y : Int64) : nI 0 < lg_cmp x y ↔ y < x := by
  have h := lg_cmp_gt x y
  simp only [i_lit] at h
  exact h
theorem lge (x y : Int64) : nI 0 ≤ lg_cmp x y ↔ y ≤ x := by
  have h := lg_cmp_ge x y
  simp only [i_lit] at h
  exact h
theorem l_nle {x y : Int64} (h : ¬ y ≤ x) : x < y := by
  rw [Int64.le_iff_toInt_le] at h
  rw [Int64.lt_iff_toInt_lt]
  omega
theorem l_nlt {x y : Int64} (h : ¬ x < y) : y ≤ x := by
  rw [Int64.lt_iff_toInt_lt] at h
  rw [Int64.le_iff_toInt_le]
  omega
theorem l_le_n {x y : Int64} (h : y ≤ x) : ¬ x < y := by
  rw [Int64.le_iff_toInt_le] at h
  rw [Int64.lt_iff_toInt_lt]
  omega
/-- beyond the limits -/
def lim (v : Int64) : Prop := 1000000000 < v ∨ v < -1000000000
def Lm (p : Nat → Int64) : Prop := ∀ y, y < 3024 → ¬ lim (p y)
theorem copy_2 (g h : Nat → Int64) : ∃ r, fX2_copy g h = some r ∧ ∀ y, y < 3024 → r y = h y := by
  refine ⟨va_cpy h g 0 0 3024, ?_, fun y hy => ?_⟩
  · simp only [fX2_copy, cY]
    rw [if_neg (by decide)]
    rfl
  · unfold va_cpy
    rw [if_pos (by omega), show 0 + (y - 0) = y by omega]
theorem within_L {g : Nat → Int64} : ∀ (n fl x : Nat), x + n = 3024 → n < fl → (fX2_isWithinLimit_L2 g fl (nI x) = some (nI 1) ∧ ∀ y, x ≤ y → y < 3024 → ¬ lim (g y)) ∨ (fX2_isWithinLimit_L2 g fl (nI x) = some (nI 0) ∧ ∃ y, x ≤ y ∧ y < 3024 ∧ lim (g y)) := by
  intro n
  induction n with
  | zero =>
    intro fl x hx hf
    obtain ⟨fl, rfl⟩ : ∃ q, fl = q + 1 := ⟨fl - 1, by omega⟩
    refine Or.inl ⟨?_, fun y a b => by omega⟩
    simp only [fX2_isWithinLimit_L2, i_lit]
    rw [if_pos ((nI_leI (by omega) (by omega)).mpr (by omega))]
  | succ n ih =>
    intro fl x hx hf
    obtain ⟨fl, rfl⟩ : ∃ q, fl = q + 1 := ⟨fl - 1, by omega⟩
    simp only [fX2_isWithinLimit_L2, i_lit, nmE, nI_add]
    rw [if_neg (fun q => by rw [nI_leI (by omega) (by omega)] at q; omega), gJ_at (by omega) (by decide), gJ_at (by omega) (by decide)]
    simp only [lgt, lge]
    by_cases h1 : 1000000000 < g x
    · exact Or.inr ⟨by rw [if_pos h1], x, Nat.le_refl _, by omega, Or.inl h1⟩
    · rw [if_neg h1]
      by_cases h2 : -1000000000 ≤ g x
      · rw [if_pos h2]
        rcases ih fl (x + 1) (by omega) (by omega) with ⟨e, q⟩ | ⟨e, y, a, b, c⟩
        · refine Or.inl ⟨e, fun y a b => ?_⟩
          by_cases c : y = x
          · rw [c]
            rintro (q1 | q1)
            · exact h1 q1
            · exact l_le_n h2 q1
          · exact q y (by omega) b
        · exact Or.inr ⟨e, y, by omega, b, c⟩
      · rw [if_neg h2]
        exact Or.inr ⟨rfl, x, Nat.le_refl _, by omega, Or.inr (l_nle h2)⟩
theorem becomes_L {next sheet : Nat → Int64} {isP : Int32} : ∀ (n fl x : Nat), x + n = 3024 → n < fl → (fX6_becomes_L2 next fl sheet isP (nI x) = fX6_becomes_L46 next fu sheet isP (nI 0) ∧ ∀ y, x ≤ y → y < 3024 → ¬ lim (next y)) ∨ (fX6_becomes_L2 next fl sheet isP (nI x) = some (-nI 5, sheet, isP) ∧ ∃ y, x ≤ y ∧ y < 3024 ∧ lim (next y)) := by
  intro n
  induction n with
  | zero =>
    intro fl x hx hf
    obtain ⟨fl, rfl⟩ : ∃ q, fl = q + 1 := ⟨fl - 1, by omega⟩
    refine Or.inl ⟨?_, fun y a b => by omega⟩
    simp only [fX6_becomes_L2, i_lit]
    rw [if_pos ((nI_leI (by omega) (by omega)).mpr (by omega))]
  | succ n ih =>
    intro fl x hx hf
    obtain ⟨fl, rfl⟩ : ∃ q, fl = q + 1 := ⟨fl - 1, by omega⟩
    simp only [fX6_becomes_L2, i_lit, nmE, nI_add]
    rw [if_neg (fun q => by rw [nI_leI (by omega) (by omega)] at q; omega), gJ_at (by omega) (by decide), gJ_at (by omega) (by decide)]
    simp only [lgt, lge]
    by_cases h1 : 1000000000 < next x
    · exact Or.inr ⟨by rw [if_pos h1], x, Nat.le_refl _, by omega, Or.inl h1⟩
    · rw [if_neg h1]
      by_cases h2 : -1000000000 ≤ next x
      · rw [if_pos h2]
        rcases ih fl (x + 1) (by omega) (by omega) with ⟨e, q⟩ | ⟨e, y, a, b, c⟩
        · refine Or.inl ⟨e, fun y a b => ?_⟩
          by_cases c : y = x
          · rw [c]
            rintro (q1 | q1)
            · exact h1 q1
            · exact l_le_n h2 q1
          · exact q y (by omega) b
        · exact Or.inr ⟨e, y, by omega, b, c⟩
      · rw [if_neg h2]
        exact Or.inr ⟨rfl, x, Nat.le_refl _, by omega, Or.inr (l_nle h2)⟩
theorem becomes_L46 {next : Nat → Int64} {isP : Int32} : ∀ (n fl x : Nat) (sheet : Nat → Int64), x + n = 3024 → n < fl → (∀ y, y < x → sheet y = next y) → ∃ sheet', fX6_becomes_L46 next fl sheet isP (nI x) = some (nI (sm (nz sheet') 0 3024), sheet', nI 0) ∧ ∀ y, y < 3024 → sheet' y = next y := by
  intro n
  induction n with
  | zero =>
    intro fl x sheet hx hf h
    obtain ⟨fl, rfl⟩ : ∃ q, fl = q + 1 := ⟨fl - 1, by omega⟩
    refine ⟨sheet, ?_, fun y hy => h y (by omega)⟩
    simp only [fX6_becomes_L46, i_lit, termsOf_6, bd_go]
    rw [if_pos ((nI_leI (by omega) (by omega)).mpr (by omega))]
  | succ n ih =>
    intro fl x sheet hx hf h
    obtain ⟨fl, rfl⟩ : ∃ q, fl = q + 1 := ⟨fl - 1, by omega⟩
    obtain ⟨s', e1, e2⟩ := ih fl (x + 1) (vp_updL sheet x (next x)) (by omega) (by omega) (fun y hy => by
      rw [updL_at]
      by_cases c : y = x
      · rw [if_pos c, c]
      · rw [if_neg c]; exact h y (by omega))
    refine ⟨s', ?_, e2⟩
    simp only [fX6_becomes_L46, i_lit, nmE, nI_add]
    rw [if_neg (fun q => by rw [nI_leI (by omega) (by omega)] at q; omega), gJ_at (by omega) (by decide), pJ_at (by omega) (by decide)]
    exact e1
theorem lim_PR {p r : Nat → Int64} (h : PR p r) : (∃ y, y < 3024 ∧ lim (p y)) ↔ ∃ y, y < 3024 ∧ lim (r y) := by
  constructor
  · rintro ⟨y, hy, q⟩
    exact ⟨sg y, sg_lt hy, by rw [← pr_sg h hy]; exact q⟩
  · rintro ⟨y, hy, q⟩
    obtain ⟨x, hx, e, _⟩ := sg_onto hy
    exact ⟨x, hx, by rw [pr_sg h hx, e]; exact q⟩
/-- the new sheet of both: taken, or over -/
theorem take_both {draft next : Nat → Int64} (h : PR draft next) (page sheet : Nat → Int64) (isP : Int32) : (∃ n page' sheet', fX5_takeDraft page draft = some (nI n, page') ∧ fX6_becomes sheet next isP = some (nI n, sheet', nI 0) ∧ PR page' sheet' ∧ Lm page') ∨ (fX5_takeDraft page draft = some (-nI 5, page) ∧ fX6_becomes sheet next isP = some (-nI 5, sheet, isP)) := by
  have h10 : ¬ nI 1 = nI 0 := by decide
  rcases within_L (g := draft) 3024 fu 0 rfl (by rw [fu_s]; omega) with ⟨e1, q1⟩ | ⟨e1, y1, _, a1, b1⟩
  · rcases becomes_L (next := next) (sheet := sheet) (isP := isP) 3024 fu 0 rfl (by rw [fu_s]; omega) with ⟨e2, q2⟩ | ⟨e2, y2, _, a2, b2⟩
    · left
      obtain ⟨p', c1, c2⟩ := copy_2 page draft
      obtain ⟨s', d1, d2⟩ := becomes_L46 (next := next) (isP := isP) 3024 fu 0 sheet rfl (by rw [fu_s]; omega) (fun y hy => by omega)
      have hPR : PR p' s' := fun a b c d ha hb hc hd => by rw [c2 _ (ic_lt ha hb hc hd), d2 _ (ir_lt ha hb hc hd)]; exact h a b c d ha hb hc hd
      refine ⟨sm (nz s') 0 3024, p', s', ?_, ?_, hPR, fun y hy => by rw [c2 y hy]; exact q1 y (Nat.zero_le _) hy⟩
      · simp only [fX5_takeDraft, fX2_isWithinLimit, i_lit, e1, bd_go, c1, filled_2]
        rw [if_neg h10, nz_PR hPR]
      · simp only [fX6_becomes, i_lit]
        rw [e2, d1]
    · exfalso
      obtain ⟨y, hy, q⟩ := (lim_PR h).mpr ⟨y2, a2, b2⟩
      exact q1 y (Nat.zero_le _) hy q
  · rcases becomes_L (next := next) (sheet := sheet) (isP := isP) 3024 fu 0 rfl (by rw [fu_s]; omega) with ⟨e2, q2⟩ | ⟨e2, y2, _, a2, b2⟩
    · exfalso
      obtain ⟨y, hy, q⟩ := (lim_PR h).mp ⟨y1, a1, b1⟩
      exact q2 y (Nat.zero_le _) hy q
    · right
      refine ⟨?_, ?_⟩
      · simp only [fX5_takeDraft, fX2_isWithinLimit, i_lit, e1, bd_go]
        rw [if_pos trivial]
      · simp only [fX6_becomes, i_lit]
        rw [e2]
theorem wipe_L {x1 isP : Int32} : ∀ (n fl x : Nat) (sheet : Nat → Int64), x + n = 3024 → n < fl → (∀ y, y < x → sheet y = 0) → ∃ sheet', fX6_wipe_L10 fl sheet isP x1 (nI x) = some (x1, sheet', nI 0) ∧ ∀ y, y < 3024 → sheet' y = 0 := by
  intro n
  induction n with
  | zero =>
    intro fl x sheet hx hf h
    obtain ⟨fl, rfl⟩ : ∃ q, fl = q + 1 := ⟨fl - 1, by omega⟩
    refine ⟨sheet, ?_, fun y hy => h y (by omega)⟩
    simp only [fX6_wipe_L10, i_lit]
    rw [if_pos ((nI_leI (by omega) (by omega)).mpr (by omega))]
  | succ n ih =>
    intro fl x sheet hx hf h
    obtain ⟨fl, rfl⟩ : ∃ q, fl = q + 1 := ⟨fl - 1, by omega⟩
    obtain ⟨s', e1, e2⟩ := ih fl (x + 1) (vp_updL sheet x 0) (by omega) (by omega) (fun y hy => by
      rw [updL_at]
      by_cases c : y = x
      · rw [if_pos c]
      · rw [if_neg c]; exact h y (by omega))
    refine ⟨s', ?_, e2⟩
    simp only [fX6_wipe_L10, i_lit, nmE, nI_add]
    rw [if_neg (fun q => by rw [nI_leI (by omega) (by omega)] at q; omega), pJ_at (by omega) (by decide)]
    exact e1
theorem PR_zero {p r : Nat → Int64} (h1 : ∀ y, y < 3024 → p y = 0) (h2 : ∀ y, y < 3024 → r y = 0) : PR p r := fun a b c d ha hb hc hd => by rw [h1 _ (ic_lt ha hb hc hd), h2 _ (ir_lt ha hb hc hd)]
theorem Lm_zero {p : Nat → Int64} (h1 : ∀ y, y < 3024 → p y = 0) : Lm p := fun y hy => by
  rw [h1 y hy]
  rintro (q | q)
  · exact absurd q (by decide)
  · exact absurd q (by decide)
theorem oq_wipe {page sheet : Nat → Int64} (hP : PR page sheet) (known isP : Int32) : ∃ n page' sheet', fX5_wipe page known = some (nI n, page', nI 0) ∧ fX6_wipe sheet isP = some (nI n, sheet', nI 0) ∧ PR page' sheet' ∧ Lm page' := by
  obtain ⟨p', e1, d1⟩ := clear_2 page
  obtain ⟨s', e2, d2⟩ := wipe_L (x1 := nI (sm (nz sheet) 0 3024)) (isP := isP) 3024 fu 0 sheet rfl (by rw [fu_s]; omega) (fun y hy => by omega)
  refine ⟨sm (nz sheet) 0 3024, p', s', ?_, ?_, PR_zero d1 d2, Lm_zero d1⟩
  · simp only [fX5_wipe, filled_2, e1, bd_go, fX3_forget, i_lit]
    rw [nz_PR hP]
  · simp only [fX6_wipe, termsOf_6, bd_go, i_lit]
    exact e2
theorem addT_L {h : Nat → Int64} {f : Int64} {e : Nat} (he : e ≤ 3024) : ∀ (n fl x : Nat) (g : Nat → Int64), x + n = e → n < fl → ∃ g', fX2_addTimes_L3 h f (nI e) fl g (nI x) = some g' ∧ ∀ y, g' y = if x ≤ y ∧ y < e then g y + f * h y else g y := by
  intro n
  induction n with
  | zero =>
    intro fl x g hx hf
    obtain ⟨fl, rfl⟩ : ∃ q, fl = q + 1 := ⟨fl - 1, by omega⟩
    refine ⟨g, ?_, fun y => by rw [if_neg (by omega)]⟩
    simp only [fX2_addTimes_L3]
    rw [if_pos ((nI_leI (by omega) (by omega)).mpr (by omega))]
  | succ n ih =>
    intro fl x g hx hf
    obtain ⟨fl, rfl⟩ : ∃ q, fl = q + 1 := ⟨fl - 1, by omega⟩
    obtain ⟨g', e1, e2⟩ := ih fl (x + 1) (vp_updL g x (g x + f * h x)) (by omega) (by omega)
    refine ⟨g', ?_, fun y => ?_⟩
    · simp only [fX2_addTimes_L3, i_lit, nmE, nI_add]
      rw [if_neg (fun q => by rw [nI_leI (by omega) (by omega)] at q; omega), if_neg (fun q => by rw [nI_leI (by omega) (by omega)] at q; omega), gJ_at (by omega) (by decide), gJ_at (by omega) (by decide), pJ_at (by omega) (by decide)]
      exact e1
    · rw [e2 y, updL_at]
      by_cases c : y = x
      · rw [c, if_neg (by omega), if_pos rfl, if_pos (by omega)]
      · rw [if_neg c]
        by_cases c2 : x + 1 ≤ y ∧ y < e
        · rw [if_pos c2, if_pos (by omega)]
        · rw [if_neg c2, if_neg (by omega)]
theorem addTimes_2 (g h : Nat → Int64) (f : Int64) {e : Nat} (he : e ≤ 3024) : ∃ g', fX2_addTimes g h f (nI e) = some g' ∧ ∀ y, g' y = if y < e then g y + f * h y else g y := by
  obtain ⟨g', e1, e2⟩ := addT_L (h := h) (f := f) he e fu 0 g (Nat.zero_add e) (by rw [fu_s]; omega)
  refine ⟨g', ?_, fun y => ?_⟩
  · simp only [fX2_addTimes, i_lit]
    exact e1
  · rw [e2 y]
    by_cases c : y < e
    · rw [if_pos ⟨Nat.zero_le _, c⟩, if_pos c]
    · rw [if_neg (fun q => c q.2), if_neg c]
theorem add6_L {p1 p2 isP : Int32} {one steps : Nat → Int32} {poly th sheet : Nat → Int64} : ∀ (n fl x : Nat) (next : Nat → Int64), x + n = 3024 → n < fl → (∀ y, y < x → next y = sheet y + p1.toInt64 * poly y) → ∃ next', fX6_add_L50 p1 p2 fl one poly th steps sheet next isP (nI x) = bd (fX6_becomes sheet next' isP) (fun r1 => some (r1.1, one, poly, th, steps, r1.2.1, next', r1.2.2)) ∧ ∀ y, y < 3024 → next' y = sheet y + p1.toInt64 * poly y := by
  intro n
  induction n with
  | zero =>
    intro fl x next hx hf h
    obtain ⟨fl, rfl⟩ : ∃ q, fl = q + 1 := ⟨fl - 1, by omega⟩
    refine ⟨next, ?_, fun y hy => h y (by omega)⟩
    simp only [fX6_add_L50, i_lit]
    rw [if_pos ((nI_leI (by omega) (by omega)).mpr (by omega))]
  | succ n ih =>
    intro fl x next hx hf h
    obtain ⟨fl, rfl⟩ : ∃ q, fl = q + 1 := ⟨fl - 1, by omega⟩
    obtain ⟨n', e1, e2⟩ := ih fl (x + 1) (vp_updL next x (sheet x + p1.toInt64 * poly x)) (by omega) (by omega) (fun y hy => by
      rw [updL_at]
      by_cases c : y = x
      · rw [if_pos c, c]
      · rw [if_neg c]; exact h y (by omega))
    refine ⟨n', ?_, e2⟩
    simp only [fX6_add_L50, i_lit, nmE, nI_add]
    rw [if_neg (fun q => by rw [nI_leI (by omega) (by omega)] at q; omega), gJ_at (by omega) (by decide), gJ_at (by omega) (by decide), pJ_at (by omega) (by decide)]
    exact e1
theorem lend_3 (known : Int32) : fX3_lendCells known = some (nI 0) := by
  simp only [fX3_lendCells, fX3_forget, bd_go, i_lit]
/-- what a call leaves of the sheet: all as it was; another one, its parts forgotten; the same one, made anew by the reference alone; refused, and the cells of the class's parts used for the draft -/
def ShOk (page counts : Nat → Int64) (known : Int32) (sheet : Nat → Int64) (isP : Int32) (page' counts' : Nat → Int64) (known' : Int32) (sheet' : Nat → Int64) (isP' : Int32) : Prop := (page' = page ∧ counts' = counts ∧ known' = known ∧ sheet' = sheet ∧ isP' = isP) ∨ (PR page' sheet' ∧ Lm page' ∧ known' = nI 0 ∧ isP' = nI 0) ∨ (page' = page ∧ counts' = counts ∧ known' = known ∧ PR page' sheet' ∧ Lm page' ∧ isP' = nI 0) ∨ (page' = page ∧ known' = nI 0 ∧ sheet' = sheet ∧ isP' = isP)
theorem ShOk.rf {page counts : Nat → Int64} {known : Int32} {sheet : Nat → Int64} {isP : Int32} : ShOk page counts known sheet isP page counts known sheet isP := Or.inl ⟨rfl, rfl, rfl, rfl, rfl⟩
theorem ShOk.no {page counts counts' : Nat → Int64} {known : Int32} {sheet : Nat → Int64} {isP : Int32} : ShOk page counts known sheet isP page counts' (nI 0) sheet isP := Or.inr (Or.inr (Or.inr ⟨rfl, rfl, rfl, rfl⟩))
theorem oq_add {g page sheet : Nat → Int64} {made : Int32} (hS : SingleOk g made) (hP : PR page sheet) (known isP : Int32) (k1 top code way k2 : Nat → Int32) (draft poly th next : Nat → Int64) (steps : Nat → Int32) (a1 a2 : Int32) : ∃ (r5 : Int32 × (Nat → Int32) × (Nat → Int64) × (Nat → Int64) × (Nat → Int32) × (Nat → Int32) × (Nat → Int32) × Int32 × (Nat → Int64) × Int32) (r6 : Int32 × (Nat → Int32) × (Nat → Int64) × (Nat → Int64) × (Nat → Int32) × (Nat → Int64) × (Nat → Int64) × Int32), fX5_add k1 page g top code way made draft known a1 a2 = some r5 ∧ fX6_add k2 poly th steps sheet next isP a1 a2 = some r6 ∧ r5.1 = r6.1 ∧ SingleOk r5.2.2.2.1 r5.2.2.2.2.2.2.2.1 ∧ ShOk page draft known sheet isP r5.2.2.1 r5.2.2.2.2.2.2.2.2.1 r5.2.2.2.2.2.2.2.2.2 r6.2.2.2.2.2.1 r6.2.2.2.2.2.2.2 := by
  obtain ⟨q1, q2, h⟩ := fit_cases k1 k2 a2
  have h10 : ¬ nI 1 = nI 0 := by decide
  by_cases hc : a1 < -nI 1000 ∨ nI 1000 < a1
  · have r6 : fX6_add k2 poly th steps sheet next isP a1 a2 = some (-nI 2, k2, poly, th, steps, sheet, next, isP) := by
      simp only [fX6_add, within_6, bd_go, i_lit]
      rw [if_pos hc, if_pos rfl]
    have r5 : ∀ y, fX5_fitCell k1 a2 = some (y, q1) → fX5_add k1 page g top code way made draft known a1 a2 = some (-nI 2, q1, page, g, top, code, way, made, draft, known) := by
      intro y e
      simp only [fX5_add, e, bd_go, i_lit]
      by_cases c1 : y = -nI 2
      · rw [if_pos c1]
      · rw [if_neg c1]
        by_cases c2 : a1 < -nI 1000
        · rw [if_pos c2]
        · rw [if_neg c2]
          rcases hc with hc | hc
          · exact absurd hc c2
          · rw [if_neg (i_nle hc)]
    rcases h with ⟨h1, h2⟩ | ⟨h1, h2, h3⟩ | ⟨x, w, hx, h1, h2, h3, h4, h5, h6⟩
    · exact ⟨_, _, r5 _ h1, r6, rfl, hS, ShOk.rf⟩
    · exact ⟨_, _, r5 _ h1, r6, rfl, hS, ShOk.rf⟩
    · exact ⟨_, _, r5 _ h1, r6, rfl, hS, ShOk.rf⟩
  · have c1 : ¬ a1 < -nI 1000 := fun q => hc (Or.inl q)
    have c2 : a1 ≤ nI 1000 := by
      have c3 : ¬ nI 1000 < a1 := fun q => hc (Or.inr q)
      rw [Int32.lt_iff_toInt_lt] at c3
      rw [Int32.le_iff_toInt_le]
      omega
    rcases h with ⟨h1, h2⟩ | ⟨h1, h2, h3⟩ | ⟨x, w, hx, h1, h2, h3, h4, h5, h6⟩
    · refine ⟨(-nI 2, q1, page, g, top, code, way, made, draft, known), (-nI 2, q2, poly, th, steps, sheet, next, isP), ?_, ?_, rfl, hS, ShOk.rf⟩
      · simp only [fX5_add, h1, bd_go, i_lit]
        rw [if_pos trivial]
      · simp only [fX6_add, within_6, h2, bd_go, i_lit]
        rw [if_neg hc, if_neg h10, if_pos trivial]
    · refine ⟨(-nI 3, q1, page, g, top, code, way, made, draft, known), (-nI 3, q2, poly, th, steps, sheet, next, isP), ?_, ?_, rfl, hS, ShOk.rf⟩
      · simp only [fX5_add, h1, bd_go, i_lit]
        rw [if_neg (by decide : ¬ -nI 3 = -nI 2), if_neg c1, if_pos c2, if_neg (by decide : ¬ nI 0 ≤ -nI 3)]
      · simp only [fX6_add, within_6, h2, h3, bd_go, i_lit]
        rw [if_neg hc, if_neg h10, if_neg h10, if_pos trivial]
    · obtain ⟨g', t', c', w', e1, d1⟩ := make_4 hS top code way hx
      obtain ⟨p', th', s', r', e2, d2⟩ := findS_6 poly th steps h4 h5
      obtain ⟨dr, e3, d3⟩ := copy_2 draft page
      obtain ⟨dr2, e4, d4⟩ := addTimes_2 dr g' a1.toInt64 (Nat.le_refl 3024)
      obtain ⟨nx', e5, d5⟩ := add6_L (p1 := a1) (p2 := a2) (isP := isP) (one := r') (steps := s') (poly := p') (th := th') (sheet := sheet) 3024 fu 0 next rfl (by rw [fu_s]; omega) (fun y hy => by omega)
      have hN : PR dr2 nx' := fun a b c d ha hb hc hd => by
        have l1 := ic_lt ha hb hc hd
        rw [d4, if_pos l1, d3 _ l1, d1 _ l1, d5 _ (ir_lt ha hb hc hd), hP a b c d ha hb hc hd, d2 a b c d ha hb hc hd]
      have hS' : SingleOk g' (nI x) := Or.inr ⟨x, hx, rfl, d1⟩
      rcases take_both hN page sheet isP with ⟨n, pg, sh, t1, t2, t3, t4⟩ | ⟨t1, t2⟩
      · refine ⟨(nI n, q1, pg, g', t', c', w', nI x, dr2, nI 0), (nI n, r', p', th', s', sh, nx', nI 0), ?_, ?_, rfl, hS', Or.inr (Or.inl ⟨t3, t4, rfl, rfl⟩)⟩
        · simp only [fX5_add, h1, bd_go, i_lit, e1, lend_3, e3, e4, t1]
          rw [if_neg (nI_ne_neg (by omega) (by decide) (by decide)), if_neg c1, if_pos c2, if_pos (nI_nn hx)]
        · simp only [fX6_add, within_6, h2, h3, bd_go, i_lit, e2]
          rw [if_neg hc, if_neg h10, if_neg h10, if_neg h10, e5, t2, bd_some]
      · refine ⟨(-nI 5, q1, page, g', t', c', w', nI x, dr2, nI 0), (-nI 5, r', p', th', s', sheet, nx', isP), ?_, ?_, rfl, hS', ShOk.no⟩
        · simp only [fX5_add, h1, bd_go, i_lit, e1, lend_3, e3, e4, t1]
          rw [if_neg (nI_ne_neg (by omega) (by decide) (by decide)), if_neg c1, if_pos c2, if_pos (nI_nn hx)]
        · simp only [fX6_add, within_6, h2, h3, bd_go, i_lit, e2]
          rw [if_neg hc, if_neg h10, if_neg h10, if_neg h10, e5, t2, bd_some]
