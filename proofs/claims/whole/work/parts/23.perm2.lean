/-! ===== inverses, products, the order ===== -/
theorem pigeon : ∀ (n : Nat) (f : Nat → Nat), (∀ i, i < n → f i < n) → (∀ i j, i < n → j < n → f i = f j → i = j) → ∀ j, j < n → ∃ i, i < n ∧ f i = j := by
  intro n
  induction n with
  | zero => intro f _ _ j hj; omega
  | succ n ih =>
    intro f hf hi j hj
    have ha := hf n (by omega)
    have h1 : ∀ i, i < n → (if f i = n then f n else f i) < n := by
      intro i hlt
      have h2 := hf i (by omega)
      split
      · rename_i h3
        have : f n ≠ n := fun h4 => by have := hi i n (by omega) (by omega) (h3.trans h4.symm); omega
        omega
      · omega
    have h2 : ∀ i j, i < n → j < n → (if f i = n then f n else f i) = (if f j = n then f n else f j) → i = j := by
      intro i j hin hjn e
      split at e <;> split at e
      · rename_i h3 h4; exact hi i j (by omega) (by omega) (h3.trans h4.symm)
      · have := hi n j (by omega) (by omega) e; omega
      · have := hi i n (by omega) (by omega) e; omega
      · exact hi i j (by omega) (by omega) e
    by_cases hja : j = f n
    · exact ⟨n, by omega, hja.symm⟩
    · by_cases hjn : j = n
      · have hfn : f n < n := by omega
        obtain ⟨i, h3, h4⟩ := ih _ h1 h2 (f n) hfn
        split at h4
        · rename_i h5; exact ⟨i, by omega, by omega⟩
        · have := hi i n (by omega) (by omega) h4; omega
      · obtain ⟨i, h3, h4⟩ := ih _ h1 h2 j (by omega)
        split at h4
        · exact absurd h4.symm hja
        · exact ⟨i, by omega, h4⟩
theorem pm_onto {row : Nat → Int32} {w : Nat → Nat} (h : Dg row w) (hp : Pm w) : ∀ j, 1 ≤ j → j ≤ 9 → ∃ k, 1 ≤ k ∧ k ≤ 9 ∧ w k = j := by
  intro j h1 h9
  obtain ⟨i, hi, e⟩ := pigeon 9 (fun k => w (k + 1) - 1) (fun i hi => by have := h (i + 1) (by omega) (by omega); show w (i + 1) - 1 < 9; omega) (fun i j hi hj e => by
    have a := h (i + 1) (by omega) (by omega)
    have b := h (j + 1) (by omega) (by omega)
    have e' : w (i + 1) - 1 = w (j + 1) - 1 := e
    have := hp (i + 1) (j + 1) (by omega) (by omega) (by omega) (by omega) (by omega)
    omega) (j - 1) (by omega)
  have a := h (i + 1) (by omega) (by omega)
  have e' : w (i + 1) - 1 = j - 1 := e
  exact ⟨i + 1, by omega, by omega, by omega⟩
theorem put_1 {row : Nat → Int32} {k : Nat} (h1 : 1 ≤ k) (h9 : k ≤ 9) (v : Int32) : fX1_put row (nI k) v = some (upd row k v) := by
  simp only [fX1_put, i_lit]
  simp (disch := omega) only [nI_ltI, pI_at]
  rw [if_neg (by omega), if_neg (by omega)]
/-- behind the first k of them a row has at the place w j the number j -/
theorem inv_L {row1 : Nat → Int32} {w : Nat → Nat} (h : Dg row1 w) (hp : Pm w) : ∀ (m fl j : Nat) (row : Nat → Int32), j + m = 10 → 1 ≤ j → m < fl → (∀ k, 1 ≤ k → k < j → row (w k) = nI k) → ∃ row', fX1_becomeInverse_L2 row1 fl row (nI j) = some row' ∧ ∀ k, 1 ≤ k → k ≤ 9 → row' (w k) = nI k := by
  intro m
  induction m with
  | zero =>
    intro fl j row hj h1 hf hr
    obtain ⟨fl, rfl⟩ : ∃ q, fl = q + 1 := ⟨fl - 1, by omega⟩
    refine ⟨row, ?_, fun k h2 h3 => hr k h2 (by omega)⟩
    simp only [fX1_becomeInverse_L2, i_lit]
    simp (disch := omega) only [nI_ltI]
    rw [if_pos (by omega)]
  | succ m ih =>
    intro fl j row hj h1 hf hr
    obtain ⟨fl, rfl⟩ : ∃ q, fl = q + 1 := ⟨fl - 1, by omega⟩
    have hw := h j h1 (by omega)
    simp only [fX1_becomeInverse_L2, i_lit, nmE, digit_at h h1 (by omega : j ≤ 9), bd_some, put_1 hw.2.1 hw.2.2]
    simp (disch := omega) only [nI_ltI, nI_add]
    rw [if_neg (by omega)]
    refine ih fl (j + 1) _ (by omega) (by omega) (by omega) (fun k h2 h3 => ?_)
    by_cases hk : k = j
    · subst hk; exact upd_s
    · rw [upd_n (fun e => hk (hp k j h2 (by omega) h1 (by omega) e))]
      exact hr k h2 (by omega)
theorem inv6_L {p1 : Int32} {row1 : Nat → Int32} {w : Nat → Nat} (h : Dg row1 w) (hp : Pm w) : ∀ (m fl j : Nat) (row : Nat → Int32), j + m = 10 → 1 ≤ j → m < fl → (∀ k, 1 ≤ k → k < j → row (w k) = nI k) → ∃ row', fX6_inverse_L16 p1 fl row1 row (nI j) = bd (fX6_plainOf row') (fun r1 => some (r1, row1, row')) ∧ ∀ k, 1 ≤ k → k ≤ 9 → row' (w k) = nI k := by
  intro m
  induction m with
  | zero =>
    intro fl j row hj h1 hf hr
    obtain ⟨fl, rfl⟩ : ∃ q, fl = q + 1 := ⟨fl - 1, by omega⟩
    refine ⟨row, ?_, fun k h2 h3 => hr k h2 (by omega)⟩
    simp only [fX6_inverse_L16, i_lit]
    simp (disch := omega) only [nI_ltI]
    rw [if_pos (by omega)]
  | succ m ih =>
    intro fl j row hj h1 hf hr
    obtain ⟨fl, rfl⟩ : ∃ q, fl = q + 1 := ⟨fl - 1, by omega⟩
    have hw := h j h1 (by omega)
    simp only [fX6_inverse_L16, i_lit, nmE]
    simp (disch := omega) only [nI_ltI, nI_add, gI_at, hw.1, pI_at]
    rw [if_neg (by omega)]
    refine ih fl (j + 1) _ (by omega) (by omega) (by omega) (fun k h2 h3 => ?_)
    by_cases hk : k = j
    · subst hk; exact upd_s
    · rw [upd_n (fun e => hk (hp k j h2 (by omega) h1 (by omega) e))]
      exact hr k h2 (by omega)
theorem inv_ex {row : Nat → Int32} {w : Nat → Nat} (h : Dg row w) (hp : Pm w) : ∃ v : Nat → Nat, (∀ k, 1 ≤ k → k ≤ 9 → v (w k) = k) ∧ ∀ j, 1 ≤ j → j ≤ 9 → 1 ≤ v j ∧ v j ≤ 9 ∧ w (v j) = j := by
  have h0 : ∀ j : Nat, ∃ k : Nat, 1 ≤ j → j ≤ 9 → 1 ≤ k ∧ k ≤ 9 ∧ w k = j := by
    intro j
    by_cases hj : 1 ≤ j ∧ j ≤ 9
    · obtain ⟨k, h1, h2, h3⟩ := pm_onto h hp j hj.1 hj.2
      exact ⟨k, fun _ _ => ⟨h1, h2, h3⟩⟩
    · exact ⟨0, fun h1 h2 => absurd ⟨h1, h2⟩ hj⟩
  obtain ⟨v, hv⟩ := Classical.axiomOfChoice h0
  refine ⟨v, fun k h1 h9 => ?_, hv⟩
  have hw := h k h1 h9
  have := hv (w k) hw.2.1 hw.2.2
  exact hp _ _ this.1 this.2.1 h1 h9 this.2.2
theorem inv_dg {row row' : Nat → Int32} {w v : Nat → Nat} (h : Dg row w) (hv : ∀ j, 1 ≤ j → j ≤ 9 → 1 ≤ v j ∧ v j ≤ 9 ∧ w (v j) = j) (hr : ∀ k, 1 ≤ k → k ≤ 9 → row' (w k) = nI k) : Dg row' v := by
  intro j h1 h9
  have := hv j h1 h9
  have e := hr (v j) this.1 this.2.1
  rw [this.2.2] at e
  exact ⟨e, this.1, this.2.1⟩
theorem prod_L {row1 row2 : Nat → Int32} {u v : Nat → Nat} (hu : Dg row1 u) (hv : Dg row2 v) : ∀ (m fl j : Nat) (row : Nat → Int32), j + m = 10 → 1 ≤ j → m < fl → (∀ k, 1 ≤ k → k < j → row k = nI (u (v k))) → ∃ row', fX1_becomeProduct_L2 row1 row2 fl row (nI j) = some row' ∧ ∀ k, 1 ≤ k → k ≤ 9 → row' k = nI (u (v k)) := by
  intro m
  induction m with
  | zero =>
    intro fl j row hj h1 hf hr
    obtain ⟨fl, rfl⟩ : ∃ q, fl = q + 1 := ⟨fl - 1, by omega⟩
    refine ⟨row, ?_, fun k h2 h3 => hr k h2 (by omega)⟩
    simp only [fX1_becomeProduct_L2, i_lit]
    simp (disch := omega) only [nI_ltI]
    rw [if_pos (by omega)]
  | succ m ih =>
    intro fl j row hj h1 hf hr
    obtain ⟨fl, rfl⟩ : ∃ q, fl = q + 1 := ⟨fl - 1, by omega⟩
    have hw := hv j h1 (by omega)
    simp only [fX1_becomeProduct_L2, i_lit, nmE, digit_at hv h1 (by omega : j ≤ 9), bd_some, digit_at hu hw.2.1 hw.2.2]
    simp (disch := omega) only [nI_ltI, nI_add, pI_at]
    rw [if_neg (by omega)]
    refine ih fl (j + 1) _ (by omega) (by omega) (by omega) (fun k h2 h3 => ?_)
    by_cases hk : k = j
    · subst hk; exact upd_s
    · rw [upd_n hk]
      exact hr k h2 (by omega)
theorem prod6_L {p1 p2 : Int32} {row1 row2 : Nat → Int32} {u v : Nat → Nat} (hu : Dg row1 u) (hv : Dg row2 v) : ∀ (m fl j : Nat) (row : Nat → Int32), j + m = 10 → 1 ≤ j → m < fl → (∀ k, 1 ≤ k → k < j → row k = nI (u (v k))) → ∃ row', fX6_after_L27 p1 p2 fl row1 row2 row (nI j) = bd (fX6_plainOf row') (fun r1 => some (r1, row1, row2, row')) ∧ ∀ k, 1 ≤ k → k ≤ 9 → row' k = nI (u (v k)) := by
  intro m
  induction m with
  | zero =>
    intro fl j row hj h1 hf hr
    obtain ⟨fl, rfl⟩ : ∃ q, fl = q + 1 := ⟨fl - 1, by omega⟩
    refine ⟨row, ?_, fun k h2 h3 => hr k h2 (by omega)⟩
    simp only [fX6_after_L27, i_lit]
    simp (disch := omega) only [nI_ltI]
    rw [if_pos (by omega)]
  | succ m ih =>
    intro fl j row hj h1 hf hr
    obtain ⟨fl, rfl⟩ : ∃ q, fl = q + 1 := ⟨fl - 1, by omega⟩
    have hw := hv j h1 (by omega)
    have hz := hu (v j) hw.2.1 hw.2.2
    simp only [fX6_after_L27, i_lit, nmE]
    simp (disch := omega) only [nI_ltI, nI_add, gI_at, hw.1, hz.1, pI_at]
    rw [if_neg (by omega)]
    refine ih fl (j + 1) _ (by omega) (by omega) (by omega) (fun k h2 h3 => ?_)
    by_cases hk : k = j
    · subst hk; exact upd_s
    · rw [upd_n hk]
      exact hr k h2 (by omega)
theorem prod_dg {row row1 row2 : Nat → Int32} {u v : Nat → Nat} (hu : Dg row1 u) (hv : Dg row2 v) (hr : ∀ k, 1 ≤ k → k ≤ 9 → row k = nI (u (v k))) : Dg row (fun k => u (v k)) := by
  intro k h1 h9
  have hw := hv k h1 h9
  have hz := hu (v k) hw.2.1 hw.2.2
  exact ⟨hr k h1 h9, hz.2.1, hz.2.2⟩
/-- of the first p how many are q or more -/
def mf (w : Nat → Nat) (p q : Nat) : Nat := sm (fun k => if q ≤ w k then 1 else 0) 1 p
theorem mf_le (w : Nat → Nat) (p q : Nat) : mf w p q ≤ p := by
  have := sm_le (f := fun k => if q ≤ w k then 1 else 0) (b := 1) p 1 (fun k _ _ => by show (if q ≤ w k then 1 else 0) ≤ 1; split <;> omega)
  unfold mf; omega
theorem mf_s (w : Nat → Nat) (p q : Nat) : mf w (p + 1) q = mf w p q + if q ≤ w (p + 1) then 1 else 0 := by
  unfold mf; rw [sm_last, Nat.add_comm 1 p]
theorem manyFrom_L {row : Nat → Int32} {w : Nat → Nat} (h : Dg row w) {p q : Nat} (hp : p ≤ 9) (hq : q ≤ 9) : ∀ (m fl j c : Nat), j + m = p + 1 → 1 ≤ j → m < fl → fX6_manyFrom_L5 row (nI p) (nI q) fl (nI c) (nI j) = some (nI (c + sm (fun k => if q ≤ w k then 1 else 0) j m)) := by
  intro m
  induction m with
  | zero =>
    intro fl j c hj h1 hf
    obtain ⟨fl, rfl⟩ : ∃ q, fl = q + 1 := ⟨fl - 1, by omega⟩
    simp only [fX6_manyFrom_L5, i_lit]
    simp (disch := omega) only [nI_ltI]
    rw [if_pos (by omega)]
    simp [sm]
  | succ m ih =>
    intro fl j c hj h1 hf
    obtain ⟨fl, rfl⟩ : ∃ q, fl = q + 1 := ⟨fl - 1, by omega⟩
    have hw := h j h1 (by omega)
    simp only [fX6_manyFrom_L5, i_lit, nmE]
    simp (disch := omega) only [nI_ltI, nI_add, gI_at, hw.1]
    rw [if_neg (by omega)]
    simp only [sm]
    by_cases hc : w j < q
    · rw [if_pos hc, ih fl (j + 1) (c + 0) (by omega) (by omega) (by omega), if_neg (by omega)]
      simp
    · rw [if_neg hc, ih fl (j + 1) (c + 1) (by omega) (by omega) (by omega), if_pos (by omega), Nat.add_assoc]
theorem manyFrom_6 {row : Nat → Int32} {w : Nat → Nat} (h : Dg row w) {p q : Nat} (hp : p ≤ 9) (hq : q ≤ 9) : fX6_manyFrom row (nI p) (nI q) = some (nI (mf w p q)) := by
  unfold fX6_manyFrom
  refine (manyFrom_L h hp hq p fu 1 0 (by omega) (by decide) (by rw [fu_s]; omega)).trans ?_
  rw [Nat.zero_add]; rfl
/-- all is well at p from q on, or something isn't -/
theorem below_L36 {p1 p2 : Int32} {ru rv : Nat → Int32} {u v : Nat → Nat} (hu : Dg ru u) (hv : Dg rv v) (rec : (Nat → Int32) → (Nat → Int32) → Int32 → Option (Int32 × (Nat → Int32) × (Nat → Int32))) {p : Nat} (h9 : p ≤ 9) : ∀ (m fl q : Nat), q + m = 10 → 1 ≤ q → m < fl → ((∀ k, q ≤ k → k ≤ 9 → mf u p k ≤ mf v p k) ∧ fX6_below_L36 p1 p2 rec fl ru rv (nI p) (nI q) = rec ru rv (nI (p + 1))) ∨ ((∃ k, q ≤ k ∧ k ≤ 9 ∧ mf v p k < mf u p k) ∧ fX6_below_L36 p1 p2 rec fl ru rv (nI p) (nI q) = some (nI 0, ru, rv)) := by
  intro m
  induction m with
  | zero =>
    intro fl q hq h1 hf
    obtain ⟨fl, rfl⟩ : ∃ q, fl = q + 1 := ⟨fl - 1, by omega⟩
    refine Or.inl ⟨fun k h2 h3 => by omega, ?_⟩
    simp only [fX6_below_L36, i_lit, nmE]
    simp (disch := omega) only [nI_ltI, nI_add]
    rw [if_pos (by omega)]
  | succ m ih =>
    intro fl q hq h1 hf
    obtain ⟨fl, rfl⟩ : ∃ q, fl = q + 1 := ⟨fl - 1, by omega⟩
    have b1 := mf_le u p q
    have b2 := mf_le v p q
    simp only [fX6_below_L36, i_lit, nmE, manyFrom_6 hu h9 (by omega : q ≤ 9), manyFrom_6 hv h9 (by omega : q ≤ 9), bd_some]
    simp (disch := omega) only [nI_ltI, nI_leI, nI_add]
    rw [if_neg (by omega)]
    by_cases hc : mf u p q ≤ mf v p q
    · rw [if_pos hc]
      rcases ih fl (q + 1) (by omega) (by omega) (by omega) with ⟨h2, h3⟩ | ⟨⟨k, h2, h4, h5⟩, h3⟩
      · refine Or.inl ⟨fun k h4 h5 => ?_, h3⟩
        by_cases hk : k = q
        · subst hk; exact hc
        · exact h2 k (by omega) h5
      · exact Or.inr ⟨⟨k, by omega, h4, h5⟩, h3⟩
    · rw [if_neg hc]
      exact Or.inr ⟨⟨q, Nat.le_refl _, by omega, by omega⟩, rfl⟩
theorem below_L27 {p1 p2 : Int32} {ru rv : Nat → Int32} {u v : Nat → Nat} (hu : Dg ru u) (hv : Dg rv v) : ∀ (m fl p : Nat), p + m = 10 → 1 ≤ p → m < fl → ((∀ j k, p ≤ j → j ≤ 9 → 1 ≤ k → k ≤ 9 → mf u j k ≤ mf v j k) ∧ fX6_below_L27 p1 p2 fl ru rv (nI p) = some (nI 1, ru, rv)) ∨ ((∃ j k, p ≤ j ∧ j ≤ 9 ∧ 1 ≤ k ∧ k ≤ 9 ∧ mf v j k < mf u j k) ∧ fX6_below_L27 p1 p2 fl ru rv (nI p) = some (nI 0, ru, rv)) := by
  intro m
  induction m with
  | zero =>
    intro fl p hp h1 hf
    obtain ⟨fl, rfl⟩ : ∃ q, fl = q + 1 := ⟨fl - 1, by omega⟩
    refine Or.inl ⟨fun j k h2 h3 => by omega, ?_⟩
    simp only [fX6_below_L27, i_lit]
    simp (disch := omega) only [nI_ltI]
    rw [if_pos (by omega)]
  | succ m ih =>
    intro fl p hp h1 hf
    obtain ⟨fl, rfl⟩ : ∃ q, fl = q + 1 := ⟨fl - 1, by omega⟩
    simp only [fX6_below_L27, i_lit]
    simp (disch := omega) only [nI_ltI]
    rw [if_neg (by omega)]
    rcases below_L36 (p1 := p1) (p2 := p2) hu hv (fX6_below_L27 p1 p2 fl) (by omega : p ≤ 9) 9 fu 1 rfl (by decide) (by rw [fu_s]; omega) with ⟨h2, h3⟩ | ⟨⟨k, h2, h4, h5⟩, h3⟩
    · rw [h3]
      rcases ih fl (p + 1) (by omega) (by omega) (by omega) with ⟨h4, h5⟩ | ⟨⟨j, k, h4, h6⟩, h5⟩
      · refine Or.inl ⟨fun j k a b c d => ?_, h5⟩
        by_cases hj : j = p
        · subst hj; exact h2 k c d
        · exact h4 j k (by omega) b c d
      · exact Or.inr ⟨⟨j, k, by omega, h6⟩, h5⟩
    · exact Or.inr ⟨⟨p, k, Nat.le_refl _, by omega, h2, h4, h5⟩, h3⟩
theorem more_le {a b : Nat} (ha : a < 2 ^ 30) (hb : b < 2 ^ 30) : (nI a - nI b ≤ nI 0) ↔ a ≤ b := by
  rw [Int32.le_iff_toInt_le, pk_sub_toInt ha hb, nI_toInt (by omega)]
  omega
theorem more_s (a b c d : Nat) : (nI a - nI b + nI c) - nI d = nI (a + c) - nI (b + d) := by
  rw [← nI_add, ← nI_add]
  grind
theorem isBelow_L13 {ru rv : Nat → Int32} {u v : Nat → Nat} (hu : Dg ru u) (hv : Dg rv v) (rec : Int32 → Option Int32) {q : Nat} (h9 : q ≤ 9) : ∀ (m fl p : Nat), p + m = 9 → m + 1 < fl → ((∀ j, p < j → j ≤ 9 → mf u j q ≤ mf v j q) ∧ fX1_isBelow_L13 ru rv rec fl (nI q) (nI (mf u p q) - nI (mf v p q)) (nI (p + 1)) = rec (nI (q + 1))) ∨ ((∃ j, p < j ∧ j ≤ 9 ∧ mf v j q < mf u j q) ∧ fX1_isBelow_L13 ru rv rec fl (nI q) (nI (mf u p q) - nI (mf v p q)) (nI (p + 1)) = some (nI 0)) := by
  intro m
  induction m with
  | zero =>
    intro fl p hp hf
    obtain ⟨fl, rfl⟩ : ∃ q, fl = q + 1 := ⟨fl - 1, by omega⟩
    refine Or.inl ⟨fun j h2 h3 => by omega, ?_⟩
    simp only [fX1_isBelow_L13, i_lit, nmE]
    simp (disch := omega) only [nI_ltI, nI_add]
    rw [if_pos (by omega)]
  | succ m ih =>
    intro fl p hp hf
    obtain ⟨fl, rfl⟩ : ∃ q, fl = q + 1 := ⟨fl - 1, by omega⟩
    have hw := hu (p + 1) (by omega) (by omega)
    have hz := hv (p + 1) (by omega) (by omega)
    have b1 := mf_le u (p + 1) q
    have b2 := mf_le v (p + 1) q
    have go : ∀ c d : Nat, mf u (p + 1) q = mf u p q + c → mf v (p + 1) q = mf v p q + d → ((∀ j, p < j → j ≤ 9 → mf u j q ≤ mf v j q) ∧ (if (nI (mf u p q) - nI (mf v p q) + nI c) - nI d ≤ nI 0 then fX1_isBelow_L13 ru rv rec fl (nI q) ((nI (mf u p q) - nI (mf v p q) + nI c) - nI d) (nI (p + 1 + 1)) else some (nI 0)) = rec (nI (q + 1))) ∨ ((∃ j, p < j ∧ j ≤ 9 ∧ mf v j q < mf u j q) ∧ (if (nI (mf u p q) - nI (mf v p q) + nI c) - nI d ≤ nI 0 then fX1_isBelow_L13 ru rv rec fl (nI q) ((nI (mf u p q) - nI (mf v p q) + nI c) - nI d) (nI (p + 1 + 1)) else some (nI 0)) = some (nI 0)) := by
      intro c d hc hd
      rw [more_s, ← hc, ← hd]
      by_cases hle : mf u (p + 1) q ≤ mf v (p + 1) q
      · rw [if_pos ((more_le (by omega) (by omega)).mpr hle)]
        rcases ih fl (p + 1) (by omega) (by omega) with ⟨h2, h3⟩ | ⟨⟨j, h2, h4⟩, h3⟩
        · refine Or.inl ⟨fun j h4 h5 => ?_, h3⟩
          by_cases hj : j = p + 1
          · subst hj; exact hle
          · exact h2 j (by omega) h5
        · exact Or.inr ⟨⟨j, by omega, h4⟩, h3⟩
      · rw [if_neg (fun h => hle ((more_le (by omega) (by omega)).mp h))]
        exact Or.inr ⟨⟨p + 1, by omega, by omega, by omega⟩, rfl⟩
    have e1 := mf_s u p q
    have e2 := mf_s v p q
    simp only [fX1_isBelow_L13, fX1_isBelow_b37, fX1_isBelow_b56, i_lit, nmE]
    simp (disch := omega) only [nI_ltI, nI_add, gI_at, hw.1, hz.1]
    rw [if_neg (by omega)]
    by_cases hc : u (p + 1) < q
    · rw [if_neg (by omega)] at e1
      rw [if_pos hc]
      by_cases hd : v (p + 1) < q
      · rw [if_neg (by omega)] at e2
        rw [if_pos hd]
        exact go 0 0 e1 e2
      · rw [if_pos (by omega)] at e2
        rw [if_neg hd]
        exact go 0 1 e1 e2
    · rw [if_pos (by omega)] at e1
      rw [if_neg hc]
      by_cases hd : v (p + 1) < q
      · rw [if_neg (by omega)] at e2
        rw [if_pos hd]
        exact go 1 0 e1 e2
      · rw [if_pos (by omega)] at e2
        rw [if_neg hd]
        exact go 1 1 e1 e2
theorem isBelow_L2 {ru rv : Nat → Int32} {u v : Nat → Nat} (hu : Dg ru u) (hv : Dg rv v) : ∀ (m fl q : Nat), q + m = 10 → 1 ≤ q → m < fl → ((∀ j k, q ≤ k → k ≤ 9 → 1 ≤ j → j ≤ 9 → mf u j k ≤ mf v j k) ∧ fX1_isBelow_L2 ru rv fl (nI q) = some (nI 1)) ∨ ((∃ j k, q ≤ k ∧ k ≤ 9 ∧ 1 ≤ j ∧ j ≤ 9 ∧ mf v j k < mf u j k) ∧ fX1_isBelow_L2 ru rv fl (nI q) = some (nI 0)) := by
  intro m
  induction m with
  | zero =>
    intro fl q hq h1 hf
    obtain ⟨fl, rfl⟩ : ∃ q, fl = q + 1 := ⟨fl - 1, by omega⟩
    refine Or.inl ⟨fun j k h2 h3 => by omega, ?_⟩
    simp only [fX1_isBelow_L2, i_lit]
    simp (disch := omega) only [nI_ltI]
    rw [if_pos (by omega)]
  | succ m ih =>
    intro fl q hq h1 hf
    obtain ⟨fl, rfl⟩ : ∃ q, fl = q + 1 := ⟨fl - 1, by omega⟩
    simp only [fX1_isBelow_L2, i_lit]
    simp (disch := omega) only [nI_ltI]
    rw [if_neg (by omega)]
    have e0 : nI 0 = nI (mf u 0 q) - nI (mf v 0 q) := by
      have : mf u 0 q = 0 := rfl
      have h2 : mf v 0 q = 0 := rfl
      rw [this, h2]; decide
    rw [show fX1_isBelow_L13 ru rv (fX1_isBelow_L2 ru rv fl) fu (nI q) (nI 0) (nI 1) = fX1_isBelow_L13 ru rv (fX1_isBelow_L2 ru rv fl) fu (nI q) (nI (mf u 0 q) - nI (mf v 0 q)) (nI (0 + 1)) by rw [← e0]]
    rcases isBelow_L13 hu hv (fX1_isBelow_L2 ru rv fl) (by omega : q ≤ 9) 9 fu 0 rfl (by rw [fu_s]; omega) with ⟨h2, h3⟩ | ⟨⟨j, h2, h4, h5⟩, h3⟩
    · rw [h3]
      rcases ih fl (q + 1) (by omega) (by omega) (by omega) with ⟨h4, h5⟩ | ⟨⟨j, k, h4, h6⟩, h5⟩
      · refine Or.inl ⟨fun j k a b c d => ?_, h5⟩
        by_cases hk : k = q
        · subst hk; exact h2 j (by omega) d
        · exact h4 j k (by omega) b c d
      · exact Or.inr ⟨⟨j, k, by omega, h6⟩, h5⟩
    · exact Or.inr ⟨⟨j, q, Nat.le_refl _, by omega, by omega, h4, h5⟩, h3⟩
