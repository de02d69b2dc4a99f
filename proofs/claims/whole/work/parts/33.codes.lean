/-! ===== codes and permutations ===== -/
def mskU (w : Nat → Nat) : Nat → Nat
  | 0 => 0
  | n + 1 => mskU w n ||| 2 ^ w (n + 1)
theorem mskU_bit (w : Nat → Nat) : ∀ (n d : Nat), (mskU w n).testBit d = true ↔ ∃ j, 1 ≤ j ∧ j ≤ n ∧ w j = d := by
  intro n
  induction n with
  | zero => intro d; simp only [mskU, Nat.zero_testBit]; exact ⟨fun h => (by cases h), fun ⟨j, a, b, _⟩ => by omega⟩
  | succ n ih =>
    intro d
    simp only [mskU]
    rw [or_bit, Bool.or_eq_true, ih d, decide_eq_true_iff]
    constructor
    · rintro (⟨j, a, b, e⟩ | e)
      · exact ⟨j, a, by omega, e⟩
      · exact ⟨n + 1, by omega, by omega, e⟩
    · rintro ⟨j, a, b, e⟩
      by_cases hj : j = n + 1
      · rw [hj] at e; exact Or.inr e
      · exact Or.inl ⟨j, a, by omega, e⟩
theorem rg_onto {w : Nat → Nat} (h : Rg w) (hp : Pm w) : ∀ j, 1 ≤ j → j ≤ 9 → ∃ k, 1 ≤ k ∧ k ≤ 9 ∧ w k = j :=
  pm_onto (row := fun k => nI (w k)) (fun k a b => ⟨rfl, h k a b⟩) hp
theorem msk_free {w : Nat → Nat} (hp : Pm w) {n : Nat} (hn : n < 9) : (mskU w n).testBit (w (n + 1)) = false := by
  cases h : (mskU w n).testBit (w (n + 1)) with
  | false => rfl
  | true =>
    obtain ⟨j, a, b, e⟩ := (mskU_bit w n _).mp h
    have := hp j (n + 1) a (by omega) (by omega) (by omega) e
    omega
theorem sm_zero {f : Nat → Nat} (n a : Nat) (h : ∀ k, a ≤ k → k < a + n → f k = 0) : sm f a n = 0 := by
  have := sm_le (f := f) (b := 0) n a (fun k x y => by rw [h k x y]; exact Nat.le_refl _)
  omega
/-- digits below x that are not ahead of place n + 1: those behind it -/
theorem uc_cnt {w : Nat → Nat} (h : Rg w) (hp : Pm w) {x : Nat} (hx1 : 1 ≤ x) (hx : x ≤ 10) : ∀ (k n : Nat), n + k = 9 → uc (mskU w n) 1 (x - 1) = sm (fun j => if w j < x then 1 else 0) (n + 1) k := by
  intro k
  induction k with
  | zero =>
    intro n hn
    simp only [sm]
    unfold uc
    refine sm_zero _ _ (fun d a b => ?_)
    obtain ⟨j, c1, c2, e⟩ := rg_onto h hp d a (by omega)
    rw [if_pos ((mskU_bit w n d).mpr ⟨j, c1, by omega, e⟩)]
  | succ k ih =>
    intro n hn
    have hw := h (n + 1) (by omega) (by omega)
    have ih' := ih (n + 1) (by omega)
    simp only [mskU] at ih'
    simp only [sm]
    rw [← ih']
    by_cases hc : w (n + 1) < x
    · rw [if_pos hc, uc_in 1 (x - 1) (msk_free hp (by omega)) hw.1 (by omega)]
      omega
    · rw [if_neg hc, uc_out 1 (x - 1) (Or.inr (by omega))]
      omega
theorem uc_code {w : Nat → Nat} (h : Rg w) (hp : Pm w) {n : Nat} (hn : n < 9) : uc (mskU w n) 1 (w (n + 1) - 1) = cnt w (n + 1) := by
  have hw := h (n + 1) (by omega) (by omega)
  rw [uc_cnt h hp hw.1 (by omega) (9 - n) n (by omega), show 9 - n = (9 - (n + 1)) + 1 by omega]
  simp only [sm]
  rw [if_neg (Nat.lt_irrefl _), Nat.zero_add]
  rfl
theorem ofc_code {w : Nat → Nat} (h : Rg w) (hp : Pm w) : ∀ (k n : Nat), n + k = 9 → ∀ j, n < j → j ≤ 9 → ofc (cnt w) k (mskU w n) (n + 1) j = w j := by
  intro k
  induction k with
  | zero => intro n hn j a b; omega
  | succ k ih =>
    intro n hn j a b
    have hw := h (n + 1) (by omega) (by omega)
    have e : pkF (mskU w n) 8 (cnt w (n + 1)) 1 = w (n + 1) := pkF_uniq _ _ _ _ _ (msk_free hp (by omega)) hw.1 (by omega) (uc_code h hp (by omega))
    simp only [ofc]
    rw [e]
    by_cases hj : j = n + 1
    · rw [if_pos hj, hj]
    · rw [if_neg hj]
      exact ih (n + 1) (by omega) j (by omega) b
theorem opm_code {w : Nat → Nat} (h : Rg w) (hp : Pm w) : ∀ j, 1 ≤ j → j ≤ 9 → opm (cnt w) j = w j := fun j a b => ofc_code h hp 9 0 rfl j (by omega) b
theorem ofc_pk {c w : Nat → Nat} : ∀ (k n : Nat), n + k = 9 → (∀ j, n < j → j ≤ 9 → ofc c k (mskU w n) (n + 1) j = w j) → ∀ j, n ≤ j → j < 9 → w (j + 1) = pkF (mskU w j) 8 (c (j + 1)) 1 := by
  intro k
  induction k with
  | zero => intro n hn _ j a b; omega
  | succ k ih =>
    intro n hn h j a b
    have e0 : w (n + 1) = pkF (mskU w n) 8 (c (n + 1)) 1 := by
      rw [← h (n + 1) (by omega) (by omega)]; simp only [ofc, if_true]
    by_cases hj : j = n
    · rw [hj]; exact e0
    · refine ih (n + 1) (by omega) (fun i x y => ?_) j (by omega) b
      rw [← h i (by omega) y]
      simp only [ofc, mskU]
      rw [if_neg (by omega), e0]
theorem opm_rg {c : Nat → Nat} (hc : ∀ i, 1 ≤ i → i ≤ 9 → c i ≤ 9 - i) : Rg (opm c) := fun k a b => (opm_in hc).1 k a b
theorem code_opm {c : Nat → Nat} (hc : ∀ i, 1 ≤ i → i ≤ 9 → c i ≤ 9 - i) : ∀ i, 1 ≤ i → i ≤ 9 → cnt (opm c) i = c i := by
  intro i h1 h9
  have hr := opm_rg hc
  have hp := (opm_in hc).2
  obtain ⟨n, rfl⟩ : ∃ n, i = n + 1 := ⟨i - 1, by omega⟩
  have e := ofc_pk (c := c) (w := opm c) 9 0 rfl (fun j a b => rfl) n (by omega) (by omega)
  have hu : uc (mskU (opm c) n) 1 9 = 9 - n := by
    have := uc_cnt hr hp (by decide : 1 ≤ 10) (by decide) (9 - n) n (by omega)
    rw [show 10 - 1 = 9 from rfl] at this
    rw [this]
    have e2 : sm (fun j => if opm c j < 10 then 1 else 0) (n + 1) (9 - n) = sm (fun _ => 1) (n + 1) (9 - n) := sm_congr _ _ (fun k a b => by
      have := hr k (by omega) (by omega)
      show (if opm c k < 10 then 1 else 0) = 1
      rw [if_pos (by omega)])
    rw [e2]
    have : ∀ q a, sm (fun _ => 1) a q = q := by
      intro q
      induction q with
      | zero => intro a; rfl
      | succ q ih => intro a; simp only [sm]; rw [ih]; omega
    exact this _ _
  have hs := pkF_spec (mskU (opm c) n) 8 (c (n + 1)) 1 (by rw [hu]; have := hc (n + 1) h1 h9; omega)
  rw [← e, uc_code hr hp (by omega)] at hs
  exact hs.2.2.2
theorem dn_out (f : Nat → Bool) : ∀ k, ∀ j, dn f k < j → j ≤ k → f j = false := by
  intro k
  induction k with
  | zero => intro j a b; omega
  | succ k ih =>
    intro j a b
    simp only [dn] at a
    cases h : f (k + 1) with
    | true => rw [h, if_pos rfl] at a; omega
    | false =>
      rw [h, if_neg (by decide)] at a
      by_cases e : j = k + 1
      · rw [e]; exact h
      · exact ih j a (by omega)
theorem fit_le {w : Nat → Nat} (hf : dlast w ≤ 4) : ∀ (m j : Nat), 5 ≤ j → j + m ≤ 9 → w j ≤ w (j + m) := by
  intro m
  induction m with
  | zero => intro j _ _; exact Nat.le_refl _
  | succ m ih =>
    intro j h5 h9
    have h1 := ih j h5 (by omega)
    have h2 := dn_out (dsc w) 8 (j + m) (by rw [← (dn_iff w).1]; omega) (by omega)
    unfold dsc at h2
    rw [decide_eq_false_iff_not] at h2
    rw [show j + (m + 1) = j + m + 1 by omega]
    omega
theorem fit_cnt {w : Nat → Nat} (hf : dlast w ≤ 4) {i : Nat} (h5 : 5 ≤ i) (h9 : i ≤ 9) : cnt w i = 0 := by
  unfold cnt
  refine sm_zero _ _ (fun k a b => ?_)
  unfold cN
  have := fit_le hf (k - i) i h5 (by omega)
  rw [show i + (k - i) = k by omega] at this
  rw [if_neg (by omega)]
/-- the exchange of two neighbours, and the codes -/
theorem sw_a (w : Nat → Nat) (i : Nat) : sw w i (i + 1) i = w (i + 1) := by unfold sw; rw [if_neg (by omega), if_pos rfl]
theorem sw_b (w : Nat → Nat) (i : Nat) : sw w i (i + 1) (i + 1) = w i := by unfold sw; rw [if_pos rfl]
theorem sw_o (w : Nat → Nat) {i j : Nat} (h1 : j ≠ i) (h2 : j ≠ i + 1) : sw w i (i + 1) j = w j := by unfold sw; rw [if_neg h2, if_neg h1]
theorem sm_sw {f g : Nat → Nat} {i : Nat} (he : f i + f (i + 1) = g i + g (i + 1)) (ho : ∀ j, j ≠ i → j ≠ i + 1 → f j = g j) : ∀ (n a : Nat), a ≤ i → i + 1 < a + n → sm f a n = sm g a n := by
  intro n
  induction n with
  | zero => intro a _ _; rfl
  | succ n ih =>
    intro a h1 h2
    by_cases e : a = i
    · subst e
      obtain ⟨n, rfl⟩ : ∃ q, n = q + 1 := ⟨n - 1, by omega⟩
      simp only [sm]
      rw [sm_congr (f := f) (g := g) n (a + 1 + 1) (fun k x y => ho k (by omega) (by omega))]
      omega
    · simp only [sm]
      rw [ho a (by omega) (by omega), ih (a + 1) (by omega) (by omega)]
theorem cnt_sw_a {w : Nat → Nat} {i : Nat} (h1 : 1 ≤ i) (h8 : i ≤ 8) (hl : w i < w (i + 1)) : cnt (sw w i (i + 1)) i = cnt w (i + 1) + 1 := by
  unfold cnt
  rw [show 9 - i = (9 - (i + 1)) + 1 by omega]
  simp only [sm]
  have e1 : cN (sw w i (i + 1)) i (i + 1) = 1 := by unfold cN; rw [sw_a, sw_b, if_pos hl]
  rw [e1, sm_congr (f := cN (sw w i (i + 1)) i) (g := cN w (i + 1)) _ _ (fun k a b => by
    unfold cN; rw [sw_a, sw_o w (by omega) (by omega)])]
  omega
theorem cnt_sw_b {w : Nat → Nat} {i : Nat} (h1 : 1 ≤ i) (h8 : i ≤ 8) (hl : w i < w (i + 1)) : cnt (sw w i (i + 1)) (i + 1) = cnt w i := by
  unfold cnt
  rw [show 9 - i = (9 - (i + 1)) + 1 by omega]
  simp only [sm]
  have e1 : cN w i (i + 1) = 0 := by unfold cN; rw [if_neg (by omega)]
  rw [e1, Nat.zero_add]
  exact sm_congr _ _ (fun k a b => by unfold cN; rw [sw_b, sw_o w (by omega) (by omega)])
theorem cnt_sw_o {w : Nat → Nat} {i j : Nat} (h1 : 1 ≤ i) (h8 : i ≤ 8) (hj : 1 ≤ j) (hj9 : j ≤ 9) (n1 : j ≠ i) (n2 : j ≠ i + 1) : cnt (sw w i (i + 1)) j = cnt w j := by
  unfold cnt
  by_cases hb : i + 1 < j
  · exact sm_congr _ _ (fun k a b => by unfold cN; rw [sw_o w n1 n2, sw_o w (by omega) (by omega)])
  · refine sm_sw (i := i) ?_ (fun k x y => ?_) _ _ (by omega) (by omega)
    · unfold cN
      rw [sw_o w n1 n2, sw_a, sw_b]
      omega
    · unfold cN
      rw [sw_o w n1 n2, sw_o w x y]
theorem cnt_lt {w : Nat → Nat} {i : Nat} (h1 : 1 ≤ i) (h8 : i ≤ 8) (hc : cnt w i < cnt w (i + 1)) : w i < w (i + 1) := by
  rcases Nat.lt_or_ge (w i) (w (i + 1)) with h | h
  · exact h
  · exfalso
    have hle : ∀ q a, (∀ k, a ≤ k → k < a + q → cN w (i + 1) k ≤ cN w i k) → sm (cN w (i + 1)) a q ≤ sm (cN w i) a q := by
      intro q
      induction q with
      | zero => intro a _; exact Nat.le_refl _
      | succ q ih =>
        intro a hh
        simp only [sm]
        have := hh a (Nat.le_refl _) (by omega)
        have := ih (a + 1) (fun k x y => hh k (by omega) (by omega))
        omega
    have := hle (9 - (i + 1)) (i + 1 + 1) (fun k x y => by
      unfold cN
      by_cases q : w k < w (i + 1)
      · rw [if_pos q, if_pos (by omega)]; exact Nat.le_refl _
      · rw [if_neg q]; exact Nat.zero_le _)
    unfold cnt at hc
    rw [show 9 - i = (9 - (i + 1)) + 1 by omega] at hc
    simp only [sm] at hc
    omega
theorem sw_pm {w : Nat → Nat} (hr : Rg w) (hp : Pm w) {i : Nat} (h1 : 1 ≤ i) (h8 : i ≤ 8) : Rg (sw w i (i + 1)) ∧ Pm (sw w i (i + 1)) := by
  constructor
  · intro k a b
    unfold sw
    split
    · exact hr i h1 (by omega)
    · split
      · exact hr (i + 1) (by omega) (by omega)
      · exact hr k a b
  · intro a b a1 a9 b1 b9 e
    unfold sw at e
    by_cases ha : a = i + 1 <;> by_cases hb : b = i + 1
    · omega
    · rw [if_pos ha, if_neg hb] at e
      by_cases hb2 : b = i
      · rw [if_pos hb2] at e
        have := hp i (i + 1) h1 (by omega) (by omega) (by omega) e; omega
      · rw [if_neg hb2] at e
        have := hp i b h1 (by omega) b1 b9 e; omega
    · rw [if_neg ha, if_pos hb] at e
      by_cases ha2 : a = i
      · rw [if_pos ha2] at e
        have := hp (i + 1) i (by omega) (by omega) h1 (by omega) e; omega
      · rw [if_neg ha2] at e
        have := hp a i a1 a9 h1 (by omega) e; omega
    · rw [if_neg ha, if_neg hb] at e
      by_cases ha2 : a = i <;> by_cases hb2 : b = i
      · omega
      · rw [if_pos ha2, if_neg hb2] at e
        have := hp (i + 1) b (by omega) (by omega) b1 b9 e; omega
      · rw [if_neg ha2, if_pos hb2] at e
        have := hp a (i + 1) a1 a9 (by omega) (by omega) e; omega
      · rw [if_neg ha2, if_neg hb2] at e
        exact hp a b a1 a9 b1 b9 e
