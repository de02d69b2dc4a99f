/-! ===== permutations by their codes ===== -/
/-- how many of k digits from d on are not in m -/
def uc (m : Nat) (d k : Nat) : Nat := sm (fun j => if m.testBit j then 0 else 1) d k
/-- the digit not in m, from d on, with so many such ones ahead of it -/
def pkF (m : Nat) : Nat → Nat → Nat → Nat
  | 0, _, d => d
  | k + 1, left, d => if m.testBit d then pkF m k left (d + 1) else if left = 0 then d else pkF m k (left - 1) (d + 1)
theorem pkF_spec (m : Nat) : ∀ (k left d : Nat), left < uc m d (k + 1) → m.testBit (pkF m k left d) = false ∧ d ≤ pkF m k left d ∧ pkF m k left d ≤ d + k ∧ uc m d (pkF m k left d - d) = left := by
  intro k
  induction k with
  | zero =>
    intro left d h
    simp only [uc, sm] at h
    simp only [pkF]
    cases hb : m.testBit d with
    | true => rw [hb] at h; simp at h
    | false =>
      rw [hb] at h
      simp at h
      refine ⟨rfl, Nat.le_refl _, Nat.le_refl _, ?_⟩
      rw [Nat.sub_self]; simp [uc, sm, h]
  | succ k ih =>
    intro left d h
    simp only [pkF]
    cases hb : m.testBit d with
    | true =>
      rw [if_pos rfl]
      have h1 : left < uc m (d + 1) (k + 1) := by
        simp only [uc] at h ⊢
        rw [sm, hb] at h
        simpa using h
      obtain ⟨a1, a2, a3, a4⟩ := ih left (d + 1) h1
      refine ⟨a1, by omega, by omega, ?_⟩
      rw [show pkF m k left (d + 1) - d = (pkF m k left (d + 1) - (d + 1)) + 1 by omega]
      simp only [uc] at a4 ⊢
      rw [sm, hb, a4]
      simp
    | false =>
      rw [if_neg (by decide : ¬ false = true)]
      by_cases h0 : left = 0
      · rw [if_pos h0]
        refine ⟨hb, Nat.le_refl _, by omega, ?_⟩
        rw [Nat.sub_self, h0]; rfl
      · rw [if_neg h0]
        have h1 : left - 1 < uc m (d + 1) (k + 1) := by
          simp only [uc] at h ⊢
          rw [sm, hb] at h
          simp only [Bool.false_eq_true, if_false] at h
          omega
        obtain ⟨a1, a2, a3, a4⟩ := ih (left - 1) (d + 1) h1
        refine ⟨a1, by omega, by omega, ?_⟩
        rw [show pkF m k (left - 1) (d + 1) - d = (pkF m k (left - 1) (d + 1) - (d + 1)) + 1 by omega]
        simp only [uc] at a4 ⊢
        rw [sm, hb, a4]
        simp only [Bool.false_eq_true, if_false]
        omega
theorem pkF_uniq (m : Nat) : ∀ (k left d r : Nat), m.testBit r = false → d ≤ r → r ≤ d + k → uc m d (r - d) = left → pkF m k left d = r := by
  intro k
  induction k with
  | zero => intro left d r _ h1 h2 _; simp only [pkF]; omega
  | succ k ih =>
    intro left d r hr h1 h2 h3
    simp only [pkF]
    by_cases hrd : r = d
    · subst hrd
      rw [Nat.sub_self] at h3
      have h4 : left = 0 := h3.symm
      rw [hr, if_neg (by decide : ¬ false = true), if_pos h4]
    · rw [show r - d = (r - (d + 1)) + 1 by omega] at h3
      simp only [uc] at h3
      rw [sm] at h3
      cases hb : m.testBit d with
      | true =>
        rw [if_pos rfl]
        rw [hb] at h3
        exact ih left (d + 1) r hr (by omega) (by omega) (by simpa [uc] using h3)
      | false =>
        rw [hb] at h3
        simp only [Bool.false_eq_true, if_false] at h3
        rw [if_neg (by decide : ¬ false = true), if_neg (by omega)]
        exact ih (left - 1) (d + 1) r hr (by omega) (by omega) (by simp only [uc]; omega)
theorem unused_1 {m : Nat} (hm : m < 1024) {p1 : Int32} : ∀ (k fl left d : Nat), d + k = 9 → 1 ≤ d → k < fl → left < 2 ^ 31 → fX1_unusedAbove_L4 (nI m) p1 fl (nI left) (nI d) = some (nI (pkF m k left d)) := by
  intro k
  induction k with
  | zero =>
    intro fl left d hd h1 hf hl
    obtain ⟨fl, rfl⟩ : ∃ q, fl = q + 1 := ⟨fl - 1, by omega⟩
    simp only [fX1_unusedAbove_L4, i_lit]
    simp (disch := omega) only [nI_leI]
    rw [if_pos (by omega), show d = 9 by omega]
    rfl
  | succ k ih =>
    intro fl left d hd h1 hf hl
    obtain ⟨fl, rfl⟩ : ∃ q, fl = q + 1 := ⟨fl - 1, by omega⟩
    simp only [fX1_unusedAbove_L4, i_lit, nmE, mk_get m hm d (by omega)]
    simp (disch := omega) only [nI_leI, nI_add]
    rw [if_neg (by omega)]
    simp only [pkF]
    cases hb : m.testBit d with
    | true =>
      rw [if_pos rfl, if_neg (by decide : ¬ nI 1 = nI 0), if_pos rfl]
      exact ih fl left (d + 1) (by omega) (by omega) (by omega) hl
    | false =>
      rw [if_neg (by decide : ¬ false = true), if_pos rfl, if_neg (by decide : ¬ false = true)]
      by_cases h0 : left = 0
      · rw [if_pos (by rw [h0]), if_pos h0]
      · rw [if_neg (by rw [nI_eq hl (by decide)]; exact h0), if_neg h0, nI_dec (by omega)]
        exact ih fl (left - 1) (d + 1) (by omega) (by omega) (by omega) (by omega)
theorem unusedAbove_1 {m : Nat} (hm : m < 1024) {left : Nat} (hl : left < 2 ^ 31) : fX1_unusedAbove (nI m) (nI left) = some (nI (pkF m 8 left 1)) := by
  simp only [fX1_unusedAbove, i_lit]
  exact unused_1 hm 8 fu left 1 rfl (by decide) (by rw [fu_s]; omega) hl
theorem lays_L60 {m : Nat} (hm : m < 1024) {p1 p2 p3 p4 : Int32} {rec : (Nat → Int32) → Int32 → Int32 → Option (Nat → Int32)} {row : Nat → Int32} {i : Nat} (hi : 1 ≤ i) (hi9 : i ≤ 9) : ∀ (k fl left d : Nat), d + k = 9 → 1 ≤ d → k < fl → left < 2 ^ 31 → left < uc m d (k + 1) → fX6_laysCode_L60 p1 p2 p3 p4 rec fl row (nI m) (nI i) (nI left) (nI d) = rec (upd row i (nI (pkF m k left d))) (nI (m ||| 2 ^ pkF m k left d)) (nI (i + 1)) := by
  intro k
  induction k with
  | zero =>
    intro fl left d hd h1 hf hl hu
    obtain ⟨fl, rfl⟩ : ∃ q, fl = q + 1 := ⟨fl - 1, by omega⟩
    obtain ⟨a1, a2, a3, a4⟩ := pkF_spec m 0 left d hu
    simp only [pkF] at a1 a2 a3 a4 ⊢
    rw [Nat.sub_self] at a4
    have a5 : left = 0 := a4.symm
    subst a5
    simp only [fX6_laysCode_L60, i_lit, nmE, mk_get m hm d (by omega), mk_put m hm d (by omega), a1]
    simp (disch := omega) only [nI_leI, nI_add, pI_at]
    rw [if_neg (by decide : ¬ false = true), if_neg (by decide : ¬ nI 0 = nI 1), if_pos (by omega)]
  | succ k ih =>
    intro fl left d hd h1 hf hl hu
    obtain ⟨fl, rfl⟩ : ∃ q, fl = q + 1 := ⟨fl - 1, by omega⟩
    simp only [fX6_laysCode_L60, fX6_laysCode_b76, i_lit, nmE, mk_get m hm d (by omega), mk_put m hm d (by omega)]
    simp (disch := omega) only [nI_leI, nI_add, pI_at]
    simp only [pkF]
    have hu' := hu
    simp only [uc] at hu'
    rw [sm] at hu'
    cases hb : m.testBit d with
    | true =>
      rw [hb] at hu'
      rw [if_pos rfl, if_pos rfl, if_pos rfl, if_pos rfl, i_dif (Nat.zero_le _)]
      exact ih fl left (d + 1) (by omega) (by omega) (by omega) hl (by simpa [uc] using hu')
    | false =>
      rw [hb] at hu'
      simp only [Bool.false_eq_true, if_false] at hu'
      rw [if_neg (by decide : ¬ false = true), if_neg (by decide : ¬ nI 0 = nI 1), if_neg (by decide : ¬ false = true)]
      by_cases h0 : left = 0
      · rw [if_pos (by omega), if_pos h0]
      · rw [if_neg (by omega), if_neg h0, if_neg (by decide : ¬ nI 0 = nI 1), i_dif (by omega)]
        exact ih fl (left - 1) (d + 1) (by omega) (by omega) (by omega) (by omega) (by simp only [uc]; omega)
/-- a mask with one more -/
theorem sm_one {f g : Nat → Nat} {r : Nat} (hfg : ∀ j, j ≠ r → f j = g j) (hr : f r = g r + 1) : ∀ (n a : Nat), a ≤ r → r < a + n → sm f a n = sm g a n + 1 := by
  intro n
  induction n with
  | zero => intro a h1 h2; omega
  | succ n ih =>
    intro a h1 h2
    simp only [sm]
    by_cases ha : a = r
    · subst ha
      rw [hr, sm_congr (f := f) (g := g) n (a + 1) (fun k h3 _ => hfg k (by omega))]
      omega
    · rw [hfg a ha, ih (a + 1) (by omega) (by omega)]
      omega
theorem uc_out {m r : Nat} (d k : Nat) (h : r < d ∨ d + k ≤ r) : uc (m ||| 2 ^ r) d k = uc m d k := by
  unfold uc
  refine sm_congr k d (fun j h1 h2 => ?_)
  rw [or_bit, decide_eq_false (by omega), Bool.or_false]
theorem uc_in {m r : Nat} (d k : Nat) (hr : m.testBit r = false) (h1 : d ≤ r) (h2 : r < d + k) : uc m d k = uc (m ||| 2 ^ r) d k + 1 := by
  unfold uc
  refine sm_one (r := r) (fun j hj => ?_) ?_ k d h1 h2
  · show (if m.testBit j = true then 0 else 1) = if (m ||| 2 ^ r).testBit j = true then 0 else 1
    rw [or_bit, decide_eq_false (fun e => hj e.symm), Bool.or_false]
  · show (if m.testBit r = true then 0 else 1) = (if (m ||| 2 ^ r).testBit r = true then 0 else 1) + 1
    rw [or_bit, hr, decide_eq_true rfl]; rfl
/-- the digits of a code c, place by place -/
def ofc (c : Nat → Nat) : Nat → Nat → Nat → Nat → Nat
  | 0, _, _, _ => 0
  | k + 1, m, i, j => if j = i then pkF m 8 (c i) 1 else ofc c k (m ||| 2 ^ pkF m 8 (c i) 1) (i + 1) j
/-- what both do: from place i on, with the mask m -/
theorem ofc_go {c : Nat → Nat} (hc : ∀ i, 1 ≤ i → i ≤ 9 → c i ≤ 9 - i) : ∀ (k m i : Nat), i + k = 10 → 1 ≤ i → m < 1024 → uc m 1 9 = k → (∀ j, i ≤ j → j ≤ 9 → 1 ≤ ofc c k m i j ∧ ofc c k m i j ≤ 9 ∧ m.testBit (ofc c k m i j) = false) ∧ (∀ a b, i ≤ a → a ≤ 9 → i ≤ b → b ≤ 9 → ofc c k m i a = ofc c k m i b → a = b) := by
  intro k
  induction k with
  | zero => intro m i hi h1 hm hu; exact ⟨fun j h2 h3 => by omega, fun a b h2 h3 => by omega⟩
  | succ k ih =>
    intro m i hi h1 hm hu
    have hci := hc i h1 (by omega)
    obtain ⟨a1, a2, a3, a4⟩ := pkF_spec m 8 (c i) 1 (by rw [hu]; omega)
    have hu2 : uc (m ||| 2 ^ pkF m 8 (c i) 1) 1 9 = k := by
      have := uc_in 1 9 a1 a2 (by omega)
      omega
    obtain ⟨b1, b2⟩ := ih (m ||| 2 ^ pkF m 8 (c i) 1) (i + 1) (by omega) (by omega) (or_lt hm (by omega)) hu2
    have e0 : ofc c (k + 1) m i i = pkF m 8 (c i) 1 := by simp only [ofc, if_true]
    have e1 : ∀ j, j ≠ i → ofc c (k + 1) m i j = ofc c k (m ||| 2 ^ pkF m 8 (c i) 1) (i + 1) j := fun j hj => by simp only [ofc, if_neg hj]
    have b3 : ∀ j, i + 1 ≤ j → j ≤ 9 → ofc c k (m ||| 2 ^ pkF m 8 (c i) 1) (i + 1) j ≠ pkF m 8 (c i) 1 ∧ m.testBit (ofc c k (m ||| 2 ^ pkF m 8 (c i) 1) (i + 1) j) = false := by
      intro j h2 h3
      have := (b1 j h2 h3).2.2
      rw [or_bit, Bool.or_eq_false_iff, decide_eq_false_iff_not] at this
      exact ⟨fun e => this.2 e.symm, this.1⟩
    constructor
    · intro j h2 h3
      by_cases hj : j = i
      · subst hj; rw [e0]; exact ⟨a2, by omega, a1⟩
      · rw [e1 j hj]
        have := b1 j (by omega) h3
        exact ⟨this.1, this.2.1, (b3 j (by omega) h3).2⟩
    · intro a b h2 h3 h4 h5 e
      by_cases ha : a = i <;> by_cases hb : b = i
      · omega
      · rw [ha, e0, e1 b hb] at e
        exact absurd e.symm (b3 b (by omega) h5).1
      · rw [hb, e0, e1 a ha] at e
        exact absurd e (b3 a (by omega) h3).1
      · rw [e1 a ha, e1 b hb] at e
        exact b2 a b (by omega) h3 (by omega) h5 e
def opm (c : Nat → Nat) : Nat → Nat := ofc c 9 0 1
theorem opm_in {c : Nat → Nat} (hc : ∀ i, 1 ≤ i → i ≤ 9 → c i ≤ 9 - i) : (∀ j, 1 ≤ j → j ≤ 9 → 1 ≤ opm c j ∧ opm c j ≤ 9) ∧ Pm (opm c) := by
  obtain ⟨h1, h2⟩ := ofc_go hc 9 0 1 rfl (by decide) (by decide) (by decide)
  exact ⟨fun j a b => ⟨(h1 j a b).1, (h1 j a b).2.1⟩, fun i j a b c d e => h2 i j a b c d e⟩
theorem becomeOfCode_L {p1 : Int32} {c : Nat → Nat} (hc : ∀ i, 1 ≤ i → i ≤ 9 → c i ≤ 9 - i) (hx : ∀ i, 1 ≤ i → i ≤ 9 → fX5_exponentAt p1 (nI i) = some (nI (c i))) : ∀ (k fl m i : Nat) (row : Nat → Int32), i + k = 10 → 1 ≤ i → m < 1024 → uc m 1 9 = k → k < fl → ∃ row', fX1_becomeOfCode_L4 p1 fl row (nI m) (nI i) = some row' ∧ ∀ j, row' j = if i ≤ j ∧ j ≤ 9 then nI (ofc c k m i j) else row j := by
  intro k
  induction k with
  | zero =>
    intro fl m i row hi h1 hm hu hf
    obtain ⟨fl, rfl⟩ : ∃ q, fl = q + 1 := ⟨fl - 1, by omega⟩
    refine ⟨row, ?_, fun j => by rw [if_neg (by omega)]⟩
    simp only [fX1_becomeOfCode_L4, i_lit]
    simp (disch := omega) only [nI_ltI]
    rw [if_pos (by omega)]
  | succ k ih =>
    intro fl m i row hi h1 hm hu hf
    obtain ⟨fl, rfl⟩ : ∃ q, fl = q + 1 := ⟨fl - 1, by omega⟩
    have hci := hc i h1 (by omega)
    obtain ⟨a1, a2, a3, a4⟩ := pkF_spec m 8 (c i) 1 (by rw [hu]; omega)
    have hu2 : uc (m ||| 2 ^ pkF m 8 (c i) 1) 1 9 = k := by
      have := uc_in 1 9 a1 a2 (by omega)
      omega
    obtain ⟨row', e1, e2⟩ := ih fl (m ||| 2 ^ pkF m 8 (c i) 1) (i + 1) (upd row i (nI (pkF m 8 (c i) 1))) (by omega) (by omega) (or_lt hm (by omega)) hu2 (by omega)
    refine ⟨row', ?_, fun j => ?_⟩
    · simp only [fX1_becomeOfCode_L4, i_lit, nmE, hx i h1 (by omega), bd_some, unusedAbove_1 hm (by omega : c i < 2 ^ 31), mk_put m hm _ (by omega : pkF m 8 (c i) 1 < 10)]
      simp (disch := omega) only [nI_ltI, nI_add, pI_at]
      rw [if_neg (by omega)]
      exact e1
    · rw [e2 j]
      simp only [ofc]
      by_cases hj : j = i
      · subst hj
        rw [if_neg (by omega), upd_s, if_pos (by omega), if_pos rfl]
      · rw [upd_n hj]
        by_cases hj2 : i + 1 ≤ j ∧ j ≤ 9
        · rw [if_pos hj2, if_pos (by omega), if_neg hj]
        · rw [if_neg hj2, if_neg (by omega)]
theorem becomeOfCode_1 (row : Nat → Int32) {p1 : Int32} {c : Nat → Nat} (hc : ∀ i, 1 ≤ i → i ≤ 9 → c i ≤ 9 - i) (hx : ∀ i, 1 ≤ i → i ≤ 9 → fX5_exponentAt p1 (nI i) = some (nI (c i))) : ∃ row', fX1_becomeOfCode row p1 = some row' ∧ Dg row' (opm c) := by
  obtain ⟨row', e1, e2⟩ := becomeOfCode_L hc hx 9 fu 0 1 row rfl (by decide) (by decide) (by decide) (by rw [fu_s]; omega)
  refine ⟨row', by simp only [fX1_becomeOfCode, i_lit]; exact e1, fun k h1 h9 => ?_⟩
  have := (opm_in hc).1 k h1 h9
  rw [e2 k, if_pos ⟨h1, h9⟩]
  exact ⟨rfl, this.1, this.2⟩
theorem laysCode_L {c : Nat → Nat} (hc : ∀ i, 1 ≤ i → i ≤ 9 → c i ≤ 9 - i) (h5 : ∀ i, 5 ≤ i → i ≤ 9 → c i = 0) : ∀ (k fl m i : Nat) (row : Nat → Int32), i + k = 10 → 1 ≤ i → m < 1024 → uc m 1 9 = k → k < fl → ∃ row', fX6_laysCode_L6 (nI (c 1)) (nI (c 2)) (nI (c 3)) (nI (c 4)) fl row (nI m) (nI i) = some row' ∧ ∀ j, row' j = if i ≤ j ∧ j ≤ 9 then nI (ofc c k m i j) else row j := by
  intro k
  induction k with
  | zero =>
    intro fl m i row hi h1 hm hu hf
    obtain ⟨fl, rfl⟩ : ∃ q, fl = q + 1 := ⟨fl - 1, by omega⟩
    refine ⟨row, ?_, fun j => by rw [if_neg (by omega)]⟩
    simp only [fX6_laysCode_L6, i_lit]
    simp (disch := omega) only [nI_ltI]
    rw [if_pos (by omega)]
  | succ k ih =>
    intro fl m i row hi h1 hm hu hf
    obtain ⟨fl, rfl⟩ : ∃ q, fl = q + 1 := ⟨fl - 1, by omega⟩
    have hci := hc i h1 (by omega)
    obtain ⟨a1, a2, a3, a4⟩ := pkF_spec m 8 (c i) 1 (by rw [hu]; omega)
    have hu2 : uc (m ||| 2 ^ pkF m 8 (c i) 1) 1 9 = k := by
      have := uc_in 1 9 a1 a2 (by omega)
      omega
    obtain ⟨row', e1, e2⟩ := ih fl (m ||| 2 ^ pkF m 8 (c i) 1) (i + 1) (upd row i (nI (pkF m 8 (c i) 1))) (by omega) (by omega) (or_lt hm (by omega)) hu2 (by omega)
    refine ⟨row', ?_, fun j => ?_⟩
    · have go : fX6_laysCode_L60 (nI (c 1)) (nI (c 2)) (nI (c 3)) (nI (c 4)) (fX6_laysCode_L6 (nI (c 1)) (nI (c 2)) (nI (c 3)) (nI (c 4)) fl) fu row (nI m) (nI i) (nI (c i)) (nI 1) = some row' := by
        rw [lays_L60 hm h1 (by omega) 8 fu (c i) 1 rfl (by decide) (by rw [fu_s]; omega) (by omega) (by rw [hu]; omega)]
        exact e1
      simp only [fX6_laysCode_L6, i_lit]
      simp (disch := omega) only [nI_ltI, nI_eq]
      rw [if_neg (by omega)]
      rcases (show i = 1 ∨ i = 2 ∨ i = 3 ∨ i = 4 ∨ 5 ≤ i by omega) with rfl | rfl | rfl | rfl | h
      · rw [if_pos rfl]; exact go
      · rw [if_neg (by decide), if_pos rfl]; exact go
      · rw [if_neg (by decide), if_neg (by decide), if_pos rfl]; exact go
      · rw [if_neg (by decide), if_neg (by decide), if_neg (by decide), if_pos rfl]; exact go
      · rw [if_neg (by omega), if_neg (by omega), if_neg (by omega), if_neg (by omega)]
        rw [h5 i h (by omega)] at go
        exact go
    · rw [e2 j]
      simp only [ofc]
      by_cases hj : j = i
      · subst hj
        rw [if_neg (by omega), upd_s, if_pos (by omega), if_pos rfl]
      · rw [upd_n hj]
        by_cases hj2 : i + 1 ≤ j ∧ j ≤ 9
        · rw [if_pos hj2, if_pos (by omega), if_neg hj]
        · rw [if_neg hj2, if_neg (by omega)]
theorem laysCode_6 (row : Nat → Int32) {c : Nat → Nat} (hc : ∀ i, 1 ≤ i → i ≤ 9 → c i ≤ 9 - i) (h5 : ∀ i, 5 ≤ i → i ≤ 9 → c i = 0) : ∃ row', fX6_laysCode row (nI (c 1)) (nI (c 2)) (nI (c 3)) (nI (c 4)) = some row' ∧ Dg row' (opm c) := by
  obtain ⟨row', e1, e2⟩ := laysCode_L hc h5 9 fu 0 1 row rfl (by decide) (by decide) (by decide) (by rw [fu_s]; omega)
  refine ⟨row', by simp only [fX6_laysCode, i_lit]; exact e1, fun k h1 h9 => ?_⟩
  have := (opm_in hc).1 k h1 h9
  rw [e2 k, if_pos ⟨h1, h9⟩]
  exact ⟨rfl, this.1, this.2⟩
