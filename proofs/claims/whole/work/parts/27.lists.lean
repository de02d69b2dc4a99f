/-! ===== lists that are kept in order ===== -/
/-- the first place from j on, among m, whose number isn't less than v -/
def fpl (f : Nat → Int32) (v : Int32) : Nat → Nat → Nat
  | 0, j => j
  | m + 1, j => if v ≤ f j then j else fpl f v m (j + 1)
theorem fpl_in (f : Nat → Int32) (v : Int32) : ∀ (m j : Nat), j ≤ fpl f v m j ∧ fpl f v m j ≤ j + m := by
  intro m
  induction m with
  | zero => intro j; simp [fpl]
  | succ m ih =>
    intro j
    simp only [fpl]
    split
    · omega
    · have := ih (j + 1); omega
theorem fpl_congr {f g : Nat → Int32} (v : Int32) : ∀ (m j : Nat), (∀ k, j ≤ k → k < j + m → f k = g k) → fpl f v m j = fpl g v m j := by
  intro m
  induction m with
  | zero => intro j _; rfl
  | succ m ih =>
    intro j h
    simp only [fpl]
    rw [h j (Nat.le_refl _) (by omega), ih (j + 1) (fun k h1 h2 => h k (by omega) (by omega))]
/-- v put in at p -/
def inS {α : Type} (f : Nat → α) (p : Nat) (v : α) (j : Nat) : α := if j < p then f j else if j = p then v else f (j - 1)
theorem put_L2 {cap : Nat} (hcap : cap < 2 ^ 31) {f : Nat → Int32} {v : Int32} {n : Nat} (hn : n ≤ cap) : ∀ (m fl j : Nat), j + m = n → m < fl → fX0_put_L2 cap v fl f (nI n) (nI j) = fX0_put_b35 cap v f (nI n) (nI (fpl f v m j)) := by
  intro m
  induction m with
  | zero =>
    intro fl j hj hf
    obtain ⟨fl, rfl⟩ : ∃ q, fl = q + 1 := ⟨fl - 1, by omega⟩
    simp only [fX0_put_L2]
    rw [if_pos ((nI_leI (by omega) (by omega)).mpr (by omega))]
    rfl
  | succ m ih =>
    intro fl j hj hf
    obtain ⟨fl, rfl⟩ : ∃ q, fl = q + 1 := ⟨fl - 1, by omega⟩
    simp only [fX0_put_L2, i_lit, nmE, show Int32.ofNat cap = nI cap from rfl]
    simp (disch := omega) only [nI_leI, gI_at, nI_add]
    rw [if_neg (by omega), if_neg (by omega)]
    simp only [fpl]
    by_cases hc : v ≤ f j
    · rw [if_pos hc, if_pos hc]
    · rw [if_neg hc, if_neg hc]
      exact ih fl (j + 1) (by omega) (by omega)
/-- what put does: nothing, if it is there; else it is put in -/
theorem put_0 {cap : Nat} (hcap : cap < 2 ^ 31) (hfu : cap < fu) {f : Nat → Int32} {v : Int32} {n : Nat} (hn : n < cap) : (fpl f v n 0 < n ∧ f (fpl f v n 0) = v ∧ fX0_put cap f (nI n) v = some (f, nI n)) ∨ (¬ (fpl f v n 0 < n ∧ f (fpl f v n 0) = v) ∧ ∃ f', fX0_put cap f (nI n) v = some (f', nI (n + 1)) ∧ ∀ j, j ≤ n → f' j = inS f (fpl f v n 0) v j) := by
  have hp := fpl_in f v n 0
  generalize hpe : fpl f v n 0 = p at hp
  have h0 : fX0_put cap f (nI n) v = fX0_put_b35 cap v f (nI n) (nI p) := by
    rw [← hpe]
    simp only [fX0_put, i_lit]
    exact put_L2 hcap (by omega) n fu 0 (by omega) (by omega)
  have h67 : fX0_put_b67 cap v f (nI n) (nI p) (nI 0) = some (upd (va_cpy f f p (p + 1) (n - p)) p v, nI (n + 1)) := by
    simp only [fX0_put_b67, i_lit, show Int32.ofNat cap = nI cap from rfl, if_true]
    rw [if_pos ((nI_ltI (by omega) (by omega)).mpr hn), nI_add, nI_add, i_dif (by omega)]
    unfold cY
    rw [nI_clamp (by omega), nI_clamp (by omega), nI_clamp (by omega), if_neg (by
      intro h
      rcases h with h | h | h | h | h
      · exact absurd h (nI_pos (by omega))
      · exact absurd h (nI_pos (by omega))
      · exact absurd h (nI_pos (by omega))
      · omega
      · omega)]
    exact pI_at (by omega) hcap
  have h1 : fX0_put_b67 cap v f (nI n) (nI p) (nI 1) = some (f, nI n) := by
    simp only [fX0_put_b67, i_lit]
    rw [if_neg (by decide : ¬ nI 1 = nI 0)]
  have hin : ∀ j, j ≤ n → upd (va_cpy f f p (p + 1) (n - p)) p v j = inS f p v j := by
    intro j hj
    unfold inS
    by_cases e1 : j = p
    · rw [e1, upd_s, if_neg (by omega), if_pos rfl]
    · rw [upd_n e1]
      unfold va_cpy
      by_cases e2 : j < p
      · rw [if_pos e2, if_neg (by omega)]
      · rw [if_neg e2, if_neg e1, if_pos (by omega)]
        congr 1
        omega
  have hb66 : fX0_put_b66 cap v f (nI n) (nI p) = some (upd (va_cpy f f p (p + 1) (n - p)) p v, nI (n + 1)) := by
    simp only [fX0_put_b66, i_lit]; exact h67
  rw [h0]
  simp only [fX0_put_b35, i_lit, show Int32.ofNat cap = nI cap from rfl]
  simp (disch := omega) only [nI_leI]
  by_cases hlt : p < n
  · rw [if_neg (by omega), if_neg (by omega), gI_at (by omega) hcap]
    by_cases he : f p = v
    · exact Or.inl ⟨hlt, he, by rw [if_pos he, h1]⟩
    · exact Or.inr ⟨fun h => he h.2, _, by rw [if_neg he, hb66], hin⟩
  · rw [if_pos (by omega), hb66]
    exact Or.inr ⟨fun h => hlt h.1, _, rfl, hin⟩
theorem finds_L2 {f : Nat → Int32} {v : Int32} {n : Nat} (hn : n < 64) : ∀ (m fl j : Nat), j + m = n → m < fl → fX6_finds_L2 v fl (nI n) f (nI j) = fX6_finds_b26 v (nI n) f (nI (fpl f v m j)) := by
  intro m
  induction m with
  | zero =>
    intro fl j hj hf
    obtain ⟨fl, rfl⟩ : ∃ q, fl = q + 1 := ⟨fl - 1, by omega⟩
    simp only [fX6_finds_L2]
    rw [if_pos ((nI_leI (by omega) (by omega)).mpr (by omega))]
    rfl
  | succ m ih =>
    intro fl j hj hf
    obtain ⟨fl, rfl⟩ : ∃ q, fl = q + 1 := ⟨fl - 1, by omega⟩
    simp only [fX6_finds_L2, i_lit, nmE]
    simp (disch := omega) only [nI_leI, gI_at, nI_add]
    rw [if_neg (by omega)]
    simp only [fpl]
    by_cases hc : v ≤ f j
    · rw [if_pos hc, if_pos hc]
    · rw [if_neg hc, if_neg hc]
      exact ih fl (j + 1) (by omega) (by omega)
theorem finds_L50 {v : Int32} {n p : Nat} (hn : n < 63) : ∀ (m fl : Nat) (f : Nat → Int32), p + m ≤ n → m < fl → ∃ f', fX6_finds_L50 v fl (nI n) f (nI p) (nI (p + m)) = some (nI (n + 1), f') ∧ ∀ j, f' j = if p < j ∧ j ≤ p + m then f (j - 1) else if j = p then v else f j := by
  intro m
  induction m with
  | zero =>
    intro fl f hm hf
    obtain ⟨fl, rfl⟩ : ∃ q, fl = q + 1 := ⟨fl - 1, by omega⟩
    refine ⟨upd f p v, ?_, fun j => ?_⟩
    · simp only [fX6_finds_L50, i_lit, Nat.add_zero]
      simp (disch := omega) only [nI_leI, pI_at, nI_add]
      rw [if_pos (Nat.le_refl _)]
    · rw [if_neg (by omega)]; rfl
  | succ m ih =>
    intro fl f hm hf
    obtain ⟨fl, rfl⟩ : ∃ q, fl = q + 1 := ⟨fl - 1, by omega⟩
    obtain ⟨f', e1, e2⟩ := ih fl (upd f (p + (m + 1)) (f (p + m))) (by omega) (by omega)
    refine ⟨f', ?_, fun j => ?_⟩
    · simp only [fX6_finds_L50, i_lit, nmE]
      rw [i_dif (by omega : 1 ≤ p + (m + 1)), nI_dec (by omega : 0 < p + (m + 1)), show p + (m + 1) - 1 = p + m by omega]
      simp (disch := omega) only [nI_leI, pI_at, gI_at]
      rw [if_neg (by omega)]
      exact e1
    · rw [e2 j]
      by_cases h1 : p < j ∧ j ≤ p + m
      · rw [if_pos h1, if_pos (by omega), upd_n (by omega)]
      · rw [if_neg h1]
        by_cases h2 : j = p
        · rw [if_pos h2, if_neg (by omega), if_pos h2]
        · rw [if_neg h2]
          by_cases h3 : j = p + (m + 1)
          · rw [h3, upd_s, if_pos (by omega)]
            congr 1
          · rw [upd_n h3, if_neg (by omega), if_neg h2]
theorem finds_6 {f : Nat → Int32} {v : Int32} {n : Nat} (hn : n < 63) : (fpl f v n 0 < n ∧ f (fpl f v n 0) = v ∧ fX6_finds (nI n) f v = some (nI n, f)) ∨ (¬ (fpl f v n 0 < n ∧ f (fpl f v n 0) = v) ∧ ∃ f', fX6_finds (nI n) f v = some (nI (n + 1), f') ∧ ∀ j, j ≤ n → f' j = inS f (fpl f v n 0) v j) := by
  have hp := fpl_in f v n 0
  generalize hpe : fpl f v n 0 = p at hp
  have h0 : fX6_finds (nI n) f v = fX6_finds_b26 v (nI n) f (nI p) := by
    rw [← hpe]
    simp only [fX6_finds, i_lit]
    exact finds_L2 (by omega) n fu 0 (by omega) (by rw [fu_s]; omega)
  obtain ⟨f', e1, e2⟩ := finds_L50 (v := v) (p := p) hn (n - p) fu f (by omega) (by rw [fu_s]; omega)
  rw [show p + (n - p) = n by omega] at e1 e2
  have hin : ∀ j, j ≤ n → f' j = inS f p v j := by
    intro j hj
    rw [e2 j]
    unfold inS
    by_cases h1 : p < j
    · rw [if_pos ⟨h1, hj⟩, if_neg (by omega), if_neg (by omega)]
    · rw [if_neg (by omega)]
      by_cases h2 : j = p
      · rw [if_pos h2, if_neg (by omega), if_pos h2]
      · rw [if_neg h2, if_pos (by omega)]
  rw [h0]
  simp only [fX6_finds_b26, i_lit]
  simp (disch := omega) only [nI_leI]
  by_cases hlt : p < n
  · rw [if_neg (by omega), gI_at (by omega) (by decide)]
    by_cases he : f p = v
    · exact Or.inl ⟨hlt, he, by rw [if_pos he]⟩
    · exact Or.inr ⟨fun h => he h.2, f', by rw [if_neg he, e1], hin⟩
  · rw [if_pos (by omega), e1]
    exact Or.inr ⟨fun h => hlt h.1, f', rfl, hin⟩
/-- both lists hold the same n numbers -/
def LsE (f g : Nat → Int32) (n : Nat) : Prop := ∀ j, j < n → f j = g j
theorem put_finds {f g : Nat → Int32} {n : Nat} (h : LsE f g n) (hn : n < 32) (v : Int32) : ∃ (n' : Nat) (f' g' : Nat → Int32), fX0_put 32 f (nI n) v = some (f', nI n') ∧ fX6_finds (nI n) g v = some (nI n', g') ∧ LsE f' g' n' ∧ n' ≤ n + 1 := by
  have e : fpl f v n 0 = fpl g v n 0 := fpl_congr v n 0 (fun k _ h2 => h k (by omega))
  have A := put_0 (cap := 32) (by decide) (by rw [fu_s]; omega) (f := f) (v := v) hn
  have B := finds_6 (f := g) (v := v) (by omega : n < 63)
  rw [← e] at B
  rcases A with ⟨a1, a2, a3⟩ | ⟨a1, f', a2, a3⟩ <;> rcases B with ⟨b1, b2, b3⟩ | ⟨b1, g', b2, b3⟩
  · exact ⟨n, f, g, a3, b3, h, by omega⟩
  · exact absurd ⟨a1, by rw [← h _ a1]; exact a2⟩ b1
  · exact absurd ⟨b1, by rw [h _ b1]; exact b2⟩ a1
  · refine ⟨n + 1, f', g', a2, b2, fun j hj => ?_, Nat.le_refl _⟩
    rw [a3 j (by omega), b3 j (by omega)]
    unfold inS
    have hp := fpl_in f v n 0
    by_cases h1 : j < fpl f v n 0
    · rw [if_pos h1, if_pos h1, h j (by omega)]
    · rw [if_neg h1, if_neg h1]
      by_cases h2 : j = fpl f v n 0
      · rw [if_pos h2, if_pos h2]
      · rw [if_neg h2, if_neg h2, h (j - 1) (by omega)]
/-- an int of -1 or more -/
theorem i_m1 (x : Int32) : (¬ -nI 1 ≤ x) ∨ x = -nI 1 ∨ ∃ k : Nat, k < 2 ^ 31 ∧ x = nI k := by
  by_cases h : -nI 1 ≤ x
  · right
    by_cases h2 : x < 0
    · left
      rw [Int32.le_iff_toInt_le] at h
      rw [Int32.lt_iff_toInt_lt] at h2
      have e1 : (-nI 1).toInt = -1 := by decide
      have e0 : (0 : Int32).toInt = 0 := by decide
      apply Int32.toInt_inj.mp
      omega
    · right
      obtain ⟨k, hk, rfl⟩ := nI_of h2
      exact ⟨k, hk, rfl⟩
  · exact Or.inl h
theorem nI_ne_m1 {k : Nat} (hk : k < 2 ^ 31) : nI k ≠ -nI 1 := by
  intro h
  have := congrArg Int32.toInt h
  rw [nI_toInt hk] at this
  have e1 : (-nI 1).toInt = -1 := by decide
  omega
theorem answers {f g : Nat → Int32} {n : Nat} (h : LsE f g n) (hn : n ≤ 32) {k : Int32} (hk : -nI 1 ≤ k) : ∃ r, fX0_answer 32 f (nI n) k = some r ∧ fX6_foundBy (nI n) g k = some r := by
  rcases i_m1 k with q | rfl | ⟨j, hj, rfl⟩
  · exact absurd hk q
  · refine ⟨nI n, ?_, ?_⟩
    · simp only [fX0_answer, i_lit, if_true]
    · simp only [fX6_foundBy, i_lit, if_true]
  · by_cases hjn : n ≤ j
    · refine ⟨-nI 9, ?_, ?_⟩
      · simp only [fX0_answer, i_lit, show Int32.ofNat 32 = nI 32 from rfl]
        rw [if_neg (nI_ne_m1 hj)]
        simp (disch := omega) only [nI_ltI, nI_leI]
        rw [if_neg (by omega), if_pos hjn]
      · simp only [fX6_foundBy, i_lit]
        rw [if_neg (nI_ne_m1 hj)]
        simp (disch := omega) only [nI_leI]
        rw [if_pos hjn]
    · refine ⟨f j, ?_, ?_⟩
      · simp only [fX0_answer, i_lit, show Int32.ofNat 32 = nI 32 from rfl]
        rw [if_neg (nI_ne_m1 hj)]
        simp (disch := omega) only [nI_ltI, nI_leI, gI_at]
        rw [if_neg (by omega), if_neg hjn, if_neg (by omega)]
      · simp only [fX6_foundBy, i_lit]
        rw [if_neg (nI_ne_m1 hj)]
        simp (disch := omega) only [nI_leI, gI_at]
        rw [if_neg hjn, h j (by omega)]
