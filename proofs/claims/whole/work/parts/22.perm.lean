/-! ===== plain numbers, lengths, descents ===== -/
/-- how many digits the plain number has -/
def pcn (w : Nat → Nat) : Nat → Nat
  | 0 => 0
  | 1 => 1
  | k + 2 => if w (k + 2) = k + 2 then pcn w (k + 1) else k + 2
theorem pcn_in (w : Nat → Nat) : ∀ k, 1 ≤ k → 1 ≤ pcn w k ∧ pcn w k ≤ k
  | 0, h => by omega
  | 1, _ => by simp [pcn]
  | k + 2, _ => by
    have := pcn_in w (k + 1) (by omega)
    simp only [pcn]
    split <;> omega
theorem pcn_id (w : Nat → Nat) : ∀ k j, pcn w k < j → j ≤ k → w j = j
  | 0, j, _, h => by omega
  | 1, j, h1, h2 => by simp [pcn] at h1; omega
  | k + 2, j, h1, h2 => by
    simp only [pcn] at h1
    split at h1
    · by_cases hj : j = k + 2
      · subst hj; assumption
      · exact pcn_id w (k + 1) j h1 (by omega)
    · omega
theorem pcn_le (w : Nat → Nat) : ∀ k c, 1 ≤ k → 1 ≤ c → (∀ j, c < j → j ≤ k → w j = j) → pcn w k ≤ c
  | 0, c, h, _, _ => by omega
  | 1, c, _, hc, _ => by simp [pcn]; omega
  | k + 2, c, _, hc, h => by
    simp only [pcn]
    split
    · exact pcn_le w (k + 1) c (by omega) hc (fun j h1 h2 => h j h1 (by omega))
    · rename_i hne
      rcases Nat.lt_or_ge c (k + 2) with q | q
      · exact absurd (h (k + 2) q (Nat.le_refl _)) hne
      · exact q
/-- m digits from place j on, behind acc -/
def pv (w : Nat → Nat) : Nat → Nat → Nat → Nat
  | 0, acc, _ => acc
  | m + 1, acc, j => pv w m (acc * 10 + w j) (j + 1)
def plN (w : Nat → Nat) : Nat := pv w (pcn w 9) 0 1
theorem plainCount_L {row : Nat → Int32} {w : Nat → Nat} (h : Dg row w) : ∀ (k fl : Nat), 1 ≤ k → k ≤ 9 → k ≤ fl → fX1_plainCount_L3 row fl (nI k) = some (nI (pcn w k)) := by
  intro k
  induction k with
  | zero => intro fl h1; omega
  | succ k ih =>
    intro fl h1 h9 hf
    obtain ⟨fl, rfl⟩ : ∃ q, fl = q + 1 := ⟨fl - 1, by omega⟩
    simp only [fX1_plainCount_L3, i_lit, nmE]
    have hw := h (k + 1) h1 h9
    simp (disch := omega) only [nI_leI, gI_at, hw.1, nI_eq, nI_dec]
    cases k with
    | zero => rw [if_pos (by omega)]; simp [pcn]
    | succ k =>
      rw [if_neg (by omega)]
      simp only [pcn]
      by_cases hc : w (k + 1 + 1) = k + 1 + 1
      · rw [if_pos hc, if_pos hc]
        exact ih fl (by omega) (by omega) (by omega)
      · rw [if_neg hc, if_neg hc]
theorem plainCount_1 {row : Nat → Int32} {w : Nat → Nat} (h : Dg row w) : fX1_plainCount row = some (nI (pcn w 9)) := plainCount_L h 9 fu (by decide) (by decide) (by rw [fu_s]; omega)
theorem plainNumber_L {row : Nat → Int32} {w : Nat → Nat} (h : Dg row w) {c : Nat} (hc : c ≤ 9) : ∀ (m fl acc j : Nat), j + m = c + 1 → 1 ≤ j → m < fl → fX1_plainNumber_L9 row fl (nI c) (nI acc) (nI j) = some (nI (pv w m acc j)) := by
  intro m
  induction m with
  | zero =>
    intro fl acc j hj h1 hf
    obtain ⟨fl, rfl⟩ : ∃ q, fl = q + 1 := ⟨fl - 1, by omega⟩
    simp only [fX1_plainNumber_L9, i_lit]
    simp (disch := omega) only [nI_ltI]
    rw [if_pos (by omega)]
    rfl
  | succ m ih =>
    intro fl acc j hj h1 hf
    obtain ⟨fl, rfl⟩ : ∃ q, fl = q + 1 := ⟨fl - 1, by omega⟩
    have hw := h j h1 (by omega)
    simp only [fX1_plainNumber_L9, i_lit, nmE]
    simp (disch := omega) only [nI_ltI, gI_at, hw.1, nI_mul, nI_add]
    rw [if_neg (by omega), if_neg (by omega)]
    exact ih fl _ (j + 1) (by omega) (by omega) (by omega)
theorem plainNumber_1 {row : Nat → Int32} {w : Nat → Nat} (h : Dg row w) : fX1_plainNumber row = some (nI (plN w)) := by
  have hp := pcn_in w 9 (by decide)
  unfold fX1_plainNumber
  rw [plainCount_1 h, bd_some]
  exact plainNumber_L h hp.2 (pcn w 9) fu 0 1 (by omega) (by decide) (by rw [fu_s]; omega)
theorem plainOf_L25 {row : Nat → Int32} {w : Nat → Nat} (h : Dg row w) {c : Nat} (hc : c ≤ 9) : ∀ (m fl acc j : Nat), j + m = c + 1 → 1 ≤ j → m < fl → fX6_plainOf_L25 row fl (nI c) (nI acc) (nI j) = some (nI (pv w m acc j)) := by
  intro m
  induction m with
  | zero =>
    intro fl acc j hj h1 hf
    obtain ⟨fl, rfl⟩ : ∃ q, fl = q + 1 := ⟨fl - 1, by omega⟩
    simp only [fX6_plainOf_L25, i_lit]
    simp (disch := omega) only [nI_ltI]
    rw [if_pos (by omega)]
    rfl
  | succ m ih =>
    intro fl acc j hj h1 hf
    obtain ⟨fl, rfl⟩ : ∃ q, fl = q + 1 := ⟨fl - 1, by omega⟩
    have hw := h j h1 (by omega)
    simp only [fX6_plainOf_L25, i_lit, nmE]
    simp (disch := omega) only [nI_ltI, gI_at, hw.1, nI_mul, nI_add]
    rw [if_neg (by omega), Nat.mul_comm 10 acc]
    exact ih fl _ (j + 1) (by omega) (by omega) (by omega)
theorem plainOf_L3 {row : Nat → Int32} {w : Nat → Nat} (h : Dg row w) : ∀ (k fl : Nat), 1 ≤ k → k ≤ 9 → k ≤ fl → fX6_plainOf_L3 row fl (nI k) = fX6_plainOf_L25 row fu (nI (pcn w k)) (nI 0) (nI 1) := by
  intro k
  induction k with
  | zero => intro fl h1; omega
  | succ k ih =>
    intro fl h1 h9 hf
    obtain ⟨fl, rfl⟩ : ∃ q, fl = q + 1 := ⟨fl - 1, by omega⟩
    simp only [fX6_plainOf_L3, i_lit, nmE]
    have hw := h (k + 1) h1 h9
    simp (disch := omega) only [nI_leI, gI_at, hw.1, nI_eq, nI_dec]
    cases k with
    | zero => rw [if_pos (by omega)]; simp [pcn]
    | succ k =>
      rw [if_neg (by omega)]
      simp only [pcn]
      by_cases hc : w (k + 1 + 1) = k + 1 + 1
      · rw [if_pos hc, if_pos hc]
        exact ih fl (by omega) (by omega) (by omega)
      · rw [if_neg hc, if_neg hc]
theorem plainOf_6 {row : Nat → Int32} {w : Nat → Nat} (h : Dg row w) : fX6_plainOf row = some (nI (plN w)) := by
  have hp := pcn_in w 9 (by decide)
  unfold fX6_plainOf
  refine (plainOf_L3 h 9 fu (by decide) (by decide) (by rw [fu_s]; omega)).trans ?_
  exact plainOf_L25 h hp.2 (pcn w 9) fu 0 1 (by omega) (by decide) (by rw [fu_s]; omega)
theorem sm_last (f : Nat → Nat) : ∀ (n a : Nat), sm f a (n + 1) = sm f a n + f (a + n) := by
  intro n
  induction n with
  | zero => intro a; simp [sm]
  | succ n ih =>
    intro a
    have h1 := ih (a + 1)
    simp only [sm] at h1 ⊢
    rw [h1, show a + 1 + n = a + (n + 1) by omega]
    omega
/-- the length -/
def ln (w : Nat → Nat) : Nat := sm (cnt w) 1 9
theorem cnt_9 (w : Nat → Nat) : cnt w 9 = 0 := rfl
theorem cnt_le (w : Nat → Nat) (i : Nat) : cnt w i ≤ 9 - i := by
  have := sm_le (f := cN w i) (b := 1) (9 - i) (i + 1) (fun k _ _ => by unfold cN; split <;> omega)
  unfold cnt; omega
theorem ln_le (w : Nat → Nat) : ln w ≤ 81 := by
  have := sm_le (f := cnt w) (b := 9) 9 1 (fun k _ _ => by have := cnt_le w k; omega)
  unfold ln; omega
theorem inversions_L {row : Nat → Int32} {w : Nat → Nat} (h : Dg row w) : ∀ (m fl c j : Nat), j + m = 9 → 1 ≤ j → m < fl → fX1_inversions_L4 row fl (nI c) (nI j) = some (nI (c + sm (cnt w) j m)) := by
  intro m
  induction m with
  | zero =>
    intro fl c j hj h1 hf
    obtain ⟨fl, rfl⟩ : ∃ q, fl = q + 1 := ⟨fl - 1, by omega⟩
    simp only [fX1_inversions_L4, i_lit]
    simp (disch := omega) only [nI_leI]
    rw [if_pos (by omega)]
    simp [sm]
  | succ m ih =>
    intro fl c j hj h1 hf
    obtain ⟨fl, rfl⟩ : ∃ q, fl = q + 1 := ⟨fl - 1, by omega⟩
    simp only [fX1_inversions_L4, i_lit, nmE, codeAt_1 h h1 (by omega : j ≤ 9), bd_some]
    simp (disch := omega) only [nI_leI, nI_add]
    rw [if_neg (by omega), ih fl (c + cnt w j) (j + 1) (by omega) (by omega) (by omega)]
    simp only [sm, Nat.add_assoc]
theorem inversions_1 {row : Nat → Int32} {w : Nat → Nat} (h : Dg row w) : fX1_inversions row = some (nI (ln w)) := by
  unfold fX1_inversions
  refine (inversions_L h 8 fu 0 1 (by omega) (by decide) (by rw [fu_s]; omega)).trans ?_
  unfold ln
  rw [sm_last (cnt w) 8 1, cnt_9, Nat.zero_add]
  rfl
theorem lengthOf_L {row : Nat → Int32} {w : Nat → Nat} (h : Dg row w) : ∀ (m fl c j : Nat), j + m = 10 → 1 ≤ j → m < fl → fX6_lengthOf_L4 row fl (nI c) (nI j) = some (nI (c + sm (cnt w) j m)) := by
  intro m
  induction m with
  | zero =>
    intro fl c j hj h1 hf
    obtain ⟨fl, rfl⟩ : ∃ q, fl = q + 1 := ⟨fl - 1, by omega⟩
    simp only [fX6_lengthOf_L4, i_lit]
    simp (disch := omega) only [nI_ltI]
    rw [if_pos (by omega)]
    simp [sm]
  | succ m ih =>
    intro fl c j hj h1 hf
    obtain ⟨fl, rfl⟩ : ∃ q, fl = q + 1 := ⟨fl - 1, by omega⟩
    simp only [fX6_lengthOf_L4, i_lit, nmE, codeAt_6 h h1 (by omega : j ≤ 9), bd_some]
    simp (disch := omega) only [nI_ltI, nI_add]
    rw [if_neg (by omega), ih fl (c + cnt w j) (j + 1) (by omega) (by omega) (by omega)]
    simp only [sm, Nat.add_assoc]
theorem lengthOf_6 {row : Nat → Int32} {w : Nat → Nat} (h : Dg row w) : fX6_lengthOf row = some (nI (ln w)) := by
  unfold fX6_lengthOf
  refine (lengthOf_L h 9 fu 0 1 (by omega) (by decide) (by rw [fu_s]; omega)).trans ?_
  rw [Nat.zero_add]; rfl
/-- the set of places with b, m of them from j on; the last of them -/
def dB (b : Nat → Bool) : Nat → Nat → Nat → Nat
  | 0, s, _ => s
  | m + 1, s, j => dB b m (if b j then s ||| 2 ^ j else s) (j + 1)
def lB (b : Nat → Bool) : Nat → Nat → Nat → Nat
  | 0, s, _ => s
  | m + 1, s, j => lB b m (if b j then j else s) (j + 1)
/-- a descent -/
def dsc (w : Nat → Nat) (j : Nat) : Bool := decide (w (j + 1) < w j)
def dset (w : Nat → Nat) : Nat := dB (dsc w) 8 0 1
def dlast (w : Nat → Nat) : Nat := lB (dsc w) 8 0 1
theorem descentSet_L {row : Nat → Int32} {w : Nat → Nat} (h : Dg row w) : ∀ (m fl c j : Nat), j + m = 9 → 1 ≤ j → m < fl → c < 1024 → fX1_descentSet_L4 row fl (nI c) (nI j) = some (nI (dB (dsc w) m c j)) := by
  intro m
  induction m with
  | zero =>
    intro fl c j hj h1 hf hc
    obtain ⟨fl, rfl⟩ : ∃ q, fl = q + 1 := ⟨fl - 1, by omega⟩
    simp only [fX1_descentSet_L4, i_lit]
    simp (disch := omega) only [nI_leI]
    rw [if_pos (by omega)]
    rfl
  | succ m ih =>
    intro fl c j hj h1 hf hc
    obtain ⟨fl, rfl⟩ : ∃ q, fl = q + 1 := ⟨fl - 1, by omega⟩
    have hw := h j h1 (by omega)
    have hv := h (j + 1) (by omega) (by omega)
    simp only [fX1_descentSet_L4, i_lit, nmE]
    simp (disch := omega) only [nI_leI, nI_add, gI_at, hw.1, hv.1, mk_put c hc j (by omega)]
    rw [if_neg (by omega)]
    simp only [dB]
    by_cases hd : w j ≤ w (j + 1)
    · rw [if_pos hd, ih fl c (j + 1) (by omega) (by omega) (by omega) hc]
      simp only [dsc, decide_eq_false (Nat.not_lt.mpr hd)]
      rfl
    · rw [if_neg hd, ih fl (c ||| 2 ^ j) (j + 1) (by omega) (by omega) (by omega) (or_lt hc (by omega))]
      simp only [dsc, decide_eq_true (Nat.not_le.mp hd), if_true]
theorem descentSet_1 {row : Nat → Int32} {w : Nat → Nat} (h : Dg row w) : fX1_descentSet row = some (nI (dset w)) := descentSet_L h 8 fu 0 1 (by omega) (by decide) (by rw [fu_s]; omega) (by decide)
theorem descentsOf_L {row : Nat → Int32} {w : Nat → Nat} (h : Dg row w) : ∀ (m fl c j : Nat), j + m = 9 → 1 ≤ j → m < fl → c < 1024 → fX6_descentsOf_L4 row fl (nI c) (nI j) = some (nI (dB (dsc w) m c j)) := by
  intro m
  induction m with
  | zero =>
    intro fl c j hj h1 hf hc
    obtain ⟨fl, rfl⟩ : ∃ q, fl = q + 1 := ⟨fl - 1, by omega⟩
    simp only [fX6_descentsOf_L4, i_lit]
    simp (disch := omega) only [nI_leI]
    rw [if_pos (by omega)]
    rfl
  | succ m ih =>
    intro fl c j hj h1 hf hc
    obtain ⟨fl, rfl⟩ : ∃ q, fl = q + 1 := ⟨fl - 1, by omega⟩
    have hw := h j h1 (by omega)
    have hv := h (j + 1) (by omega) (by omega)
    simp only [fX6_descentsOf_L4, i_lit, nmE]
    simp (disch := omega) only [nI_leI, nI_add, gI_at, hw.1, hv.1, mk_put c hc j (by omega)]
    rw [if_neg (by omega)]
    simp only [dB]
    by_cases hd : w j ≤ w (j + 1)
    · have e0 : nI c ||| nI 0 = nI c := Int32.or_zero
      rw [if_pos hd, e0, ih fl c (j + 1) (by omega) (by omega) (by omega) hc]
      simp only [dsc, decide_eq_false (Nat.not_lt.mpr hd)]
      rfl
    · rw [if_neg hd, ih fl (c ||| 2 ^ j) (j + 1) (by omega) (by omega) (by omega) (or_lt hc (by omega))]
      simp only [dsc, decide_eq_true (Nat.not_le.mp hd), if_true]
theorem descentsOf_6 {row : Nat → Int32} {w : Nat → Nat} (h : Dg row w) : fX6_descentsOf row = some (nI (dset w)) := descentsOf_L h 8 fu 0 1 (by omega) (by decide) (by rw [fu_s]; omega) (by decide)
theorem lastDescent_L {row : Nat → Int32} {w : Nat → Nat} (h : Dg row w) : ∀ (m fl c j : Nat), j + m = 9 → 1 ≤ j → m < fl → fX1_lastDescent_L4 row fl (nI c) (nI j) = some (nI (lB (dsc w) m c j)) := by
  intro m
  induction m with
  | zero =>
    intro fl c j hj h1 hf
    obtain ⟨fl, rfl⟩ : ∃ q, fl = q + 1 := ⟨fl - 1, by omega⟩
    simp only [fX1_lastDescent_L4, i_lit]
    simp (disch := omega) only [nI_leI]
    rw [if_pos (by omega)]
    rfl
  | succ m ih =>
    intro fl c j hj h1 hf
    obtain ⟨fl, rfl⟩ : ∃ q, fl = q + 1 := ⟨fl - 1, by omega⟩
    have hw := h j h1 (by omega)
    have hv := h (j + 1) (by omega) (by omega)
    simp only [fX1_lastDescent_L4, i_lit, nmE]
    simp (disch := omega) only [nI_leI, nI_add, gI_at, hw.1, hv.1]
    rw [if_neg (by omega)]
    simp only [lB]
    by_cases hd : w j ≤ w (j + 1)
    · rw [if_pos hd, ih fl c (j + 1) (by omega) (by omega) (by omega)]
      simp only [dsc, decide_eq_false (Nat.not_lt.mpr hd)]
      rfl
    · rw [if_neg hd, ih fl j (j + 1) (by omega) (by omega) (by omega)]
      simp only [dsc, decide_eq_true (Nat.not_le.mp hd), if_true]
theorem lastDescent_1 {row : Nat → Int32} {w : Nat → Nat} (h : Dg row w) : fX1_lastDescent row = some (nI (dlast w)) := lastDescent_L h 8 fu 0 1 (by omega) (by decide) (by rw [fu_s]; omega)
theorem fit_bits : ∀ b1 b2 b3 b4 b5 b6 b7 b8 : Bool, ∀ f : Nat → Bool, f = (fun k => if k = 1 then b1 else if k = 2 then b2 else if k = 3 then b3 else if k = 4 then b4 else if k = 5 then b5 else if k = 6 then b6 else if k = 7 then b7 else b8) → (32 ≤ dB f 8 0 1 ↔ 4 < lB f 8 0 1) ∧ dB f 8 0 1 < 512 ∧ lB f 8 0 1 ≤ 8 := by
  intro b1 b2 b3 b4 b5 b6 b7 b8 f hf
  subst hf
  revert b1 b2 b3 b4 b5 b6 b7 b8
  decide
theorem dB_congr {f g : Nat → Bool} : ∀ (m s j : Nat), (∀ k, j ≤ k → k < j + m → f k = g k) → dB f m s j = dB g m s j := by
  intro m
  induction m with
  | zero => intro s j _; rfl
  | succ m ih => intro s j h; simp only [dB]; rw [h j (Nat.le_refl _) (by omega)]; exact ih _ _ (fun k h1 h2 => h k (by omega) (by omega))
theorem lB_congr {f g : Nat → Bool} : ∀ (m s j : Nat), (∀ k, j ≤ k → k < j + m → f k = g k) → lB f m s j = lB g m s j := by
  intro m
  induction m with
  | zero => intro s j _; rfl
  | succ m ih => intro s j h; simp only [lB]; rw [h j (Nat.le_refl _) (by omega)]; exact ih _ _ (fun k h1 h2 => h k (by omega) (by omega))
theorem eight {f : Nat → Bool} : ∀ k, 1 ≤ k → k < 1 + 8 → f k = (fun k => if k = 1 then f 1 else if k = 2 then f 2 else if k = 3 then f 3 else if k = 4 then f 4 else if k = 5 then f 5 else if k = 6 then f 6 else if k = 7 then f 7 else f 8) k := by
  intro k h1 h2
  rcases (show k = 1 ∨ k = 2 ∨ k = 3 ∨ k = 4 ∨ k = 5 ∨ k = 6 ∨ k = 7 ∨ k = 8 by omega) with rfl | rfl | rfl | rfl | rfl | rfl | rfl | rfl <;> rfl
theorem fit_iff (w : Nat → Nat) : (32 ≤ dset w ↔ 4 < dlast w) ∧ dset w < 512 ∧ dlast w ≤ 8 := by
  unfold dset dlast
  rw [dB_congr 8 0 1 (eight (f := dsc w)), lB_congr 8 0 1 (eight (f := dsc w))]
  exact fit_bits _ _ _ _ _ _ _ _ _ rfl
theorem isFit_1 {row : Nat → Int32} {w : Nat → Nat} (h : Dg row w) : fX1_isFit row = some (fB (decide (dlast w ≤ 4))) := by
  have := fit_iff w
  simp only [fX1_isFit, lastDescent_1 h, bd_some, i_lit]
  simp (disch := omega) only [nI_ltI]
  by_cases hc : 4 < dlast w
  · rw [if_pos hc, decide_eq_false (by omega)]; rfl
  · rw [if_neg hc, decide_eq_true (by omega)]; rfl
theorem isFit_6 {row : Nat → Int32} {w : Nat → Nat} (h : Dg row w) : fX6_isFit row = some (fB (decide (dlast w ≤ 4))) := by
  have := fit_iff w
  simp only [fX6_isFit, descentsOf_6 h, bd_some, i_lit]
  simp (disch := omega) only [nI_leI]
  by_cases hc : 32 ≤ dset w
  · rw [if_pos hc, decide_eq_false (by omega)]; rfl
  · rw [if_neg hc, decide_eq_true (by omega)]; rfl
theorem isSmall_1 {row : Nat → Int32} {w : Nat → Nat} (h : Dg row w) : fX1_isSmall row = some (fB (decide (pcn w 9 ≤ 5))) := by
  have := pcn_in w 9 (by decide)
  simp only [fX1_isSmall, plainCount_1 h, bd_some, i_lit]
  simp (disch := omega) only [nI_ltI]
  by_cases hc : 5 < pcn w 9
  · rw [if_pos hc, decide_eq_false (by omega)]; rfl
  · rw [if_neg hc, decide_eq_true (by omega)]; rfl
theorem isSmall_L {row : Nat → Int32} {w : Nat → Nat} (h : Dg row w) : ∀ (m fl j : Nat) (b : Bool), j + m = 10 → 1 ≤ j → m < fl → ∃ b', fX6_isSmall_L5 row fl (fB b) (nI j) = some (fB b') ∧ (b' = true ↔ b = true ∧ ∀ k, j ≤ k → k ≤ 9 → w k = k) := by
  intro m
  induction m with
  | zero =>
    intro fl j b hj h1 hf
    obtain ⟨fl, rfl⟩ : ∃ q, fl = q + 1 := ⟨fl - 1, by omega⟩
    refine ⟨b, ?_, ⟨fun hb => ⟨hb, fun k h1 h2 => by omega⟩, fun hb => hb.1⟩⟩
    simp only [fX6_isSmall_L5, i_lit]
    simp (disch := omega) only [nI_ltI]
    rw [if_pos (by omega)]
    cases b
    · exact bz_0 _
    · exact bz_1 _
  | succ m ih =>
    intro fl j b hj h1 hf
    obtain ⟨fl, rfl⟩ : ∃ q, fl = q + 1 := ⟨fl - 1, by omega⟩
    have hw := h j h1 (by omega)
    simp only [fX6_isSmall_L5, i_lit, nmE]
    simp (disch := omega) only [nI_ltI, nI_add, gI_at, hw.1, nI_eq]
    rw [if_neg (by omega)]
    cases b with
    | false =>
      obtain ⟨b', e1, e2⟩ := ih fl (j + 1) false (by omega) (by omega) (by omega)
      refine ⟨b', ?_, ?_⟩
      · rw [if_pos fB_f]; exact e1
      · rw [e2]; simp
    | true =>
      rw [if_neg (by decide : ¬ fB true = nI 0)]
      by_cases hc : w j = j
      · obtain ⟨b', e1, e2⟩ := ih fl (j + 1) true (by omega) (by omega) (by omega)
        refine ⟨b', ?_, ?_⟩
        · rw [if_pos hc]; exact e1
        · rw [e2]
          constructor
          · rintro ⟨-, h9⟩
            refine ⟨rfl, fun k h1 h2 => ?_⟩
            by_cases hk : k = j
            · subst hk; exact hc
            · exact h9 k (by omega) h2
          · rintro ⟨-, h9⟩
            exact ⟨rfl, fun k h1 h2 => h9 k (by omega) h2⟩
      · obtain ⟨b', e1, e2⟩ := ih fl (j + 1) false (by omega) (by omega) (by omega)
        refine ⟨b', ?_, ?_⟩
        · rw [if_neg hc]; exact e1
        · rw [e2]
          constructor
          · rintro ⟨h9, -⟩; cases h9
          · rintro ⟨-, h9⟩; exact absurd (h9 j (Nat.le_refl _) (by omega)) hc
theorem isSmall_6 {row : Nat → Int32} {w : Nat → Nat} (h : Dg row w) : fX6_isSmall row = some (fB (decide (pcn w 9 ≤ 5))) := by
  obtain ⟨b', e1, e2⟩ := isSmall_L h 4 fu 6 true (by omega) (by decide) (by rw [fu_s]; omega)
  refine e1.trans ?_
  congr 2
  by_cases hc : pcn w 9 ≤ 5
  · rw [decide_eq_true hc]
    exact e2.mpr ⟨rfl, fun k h1 h2 => pcn_id w 9 k (by omega) h2⟩
  · rw [decide_eq_false hc]
    cases hb : b' with
    | false => rfl
    | true =>
      have h9 := (e2.mp hb).2
      exact absurd (pcn_le w 9 5 (by decide) (by decide) (fun j h1 h2 => h9 j (by omega) h2)) hc
