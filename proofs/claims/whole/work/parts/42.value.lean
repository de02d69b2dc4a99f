/-! ===== number, terms, value ===== -/
/-- not by rfl: simp must not leave it to the kernel to see it through a loop with its fuel -/
theorem bd_go {α β : Type} (x : α) (k : α → Option β) : bd (some x) k = k x := by
  unfold bd
  simp only []
theorem nm_go {α β : Type} (e : α) (k : α → Option β) : nm e k = k e := by
  unfold nm
  simp only []
theorem neg4 {β : Type} (a b c d : Int32) (X Y : β) : (if a < nI 0 then X else if b < nI 0 then X else if c < nI 0 then X else if nI 0 ≤ d then Y else X) = if a < nI 0 ∨ b < nI 0 ∨ c < nI 0 ∨ d < nI 0 then X else Y := by
  by_cases h1 : a < nI 0
  · rw [if_pos h1, if_pos (Or.inl h1)]
  · rw [if_neg h1]
    by_cases h2 : b < nI 0
    · rw [if_pos h2, if_pos (Or.inr (Or.inl h2))]
    · rw [if_neg h2]
      by_cases h3 : c < nI 0
      · rw [if_pos h3, if_pos (Or.inr (Or.inr (Or.inl h3)))]
      · rw [if_neg h3]
        by_cases h4 : d < nI 0
        · rw [if_neg (i_nle h4), if_pos (Or.inr (Or.inr (Or.inr h4)))]
        · rw [if_pos (nneg_of h4), if_neg (by
            rintro (q | q | q | q)
            · exact h1 q
            · exact h2 q
            · exact h3 q
            · exact h4 q)]
theorem nI_nn {x : Nat} (hx : x < 3024) : nI 0 ≤ nI x := (nI_leI (by decide) (by omega)).mpr (Nat.zero_le _)
theorem nI_nl {x : Nat} (hx : x < 3024) : ¬ nI x < nI 0 := fun q => by rw [nI_ltI (by omega) (by decide)] at q; omega
theorem oq_terms {g : Nat → Int64} {made : Int32} (hS : SingleOk g made) (k1 top code way k2 : Nat → Int32) (poly th : Nat → Int64) (steps : Nat → Int32) (a1 : Int32) : ∃ (r5 : Int32 × (Nat → Int32) × (Nat → Int64) × (Nat → Int32) × (Nat → Int32) × (Nat → Int32) × Int32) (r6 : Int32 × (Nat → Int32) × (Nat → Int64) × (Nat → Int64) × (Nat → Int32)), fX5_terms k1 g top code way made a1 = some r5 ∧ fX6_terms k2 poly th steps a1 = some r6 ∧ r5.1 = r6.1 ∧ SingleOk r5.2.2.1 r5.2.2.2.2.2.2 := by
  obtain ⟨q1, q2, h⟩ := fit_cases k1 k2 a1
  have h10 : ¬ nI 1 = nI 0 := by decide
  rcases h with ⟨h1, h2⟩ | ⟨h1, h2, h3⟩ | ⟨x, w, hx, h1, h2, h3, h4, h5, h6⟩
  · refine ⟨(-nI 2, q1, g, top, code, way, made), (-nI 2, q2, poly, th, steps), ?_, ?_, rfl, hS⟩
    · simp only [fX5_terms, h1, bd_go, i_lit]
      rw [if_neg (by decide : ¬ nI 0 ≤ -nI 2)]
    · simp only [fX6_terms, h2, bd_go, i_lit]
      rw [if_pos trivial]
  · refine ⟨(-nI 3, q1, g, top, code, way, made), (-nI 3, q2, poly, th, steps), ?_, ?_, rfl, hS⟩
    · simp only [fX5_terms, h1, bd_go, i_lit]
      rw [if_neg (by decide : ¬ nI 0 ≤ -nI 3)]
    · simp only [fX6_terms, h2, h3, bd_go, i_lit]
      rw [if_neg h10, if_pos trivial]
  · obtain ⟨g', t', c', w', e1, d1⟩ := make_4 hS top code way hx
    obtain ⟨p', th', s', r', e2, d2⟩ := findS_6 poly th steps h4 h5
    refine ⟨(nI (sm (nz g') 0 3024), q1, g', t', c', w', nI x), (nI (sm (nz p') 0 3024), r', p', th', s'), ?_, ?_, ?_, Or.inr ⟨x, hx, rfl, d1⟩⟩
    · simp only [fX5_terms, h1, bd_go, i_lit, e1, filled_2]
      rw [if_pos (nI_nn hx)]
    · simp only [fX6_terms, h2, h3, bd_go, i_lit, e2, termsOf_6]
      rw [if_neg h10, if_neg h10]
    · show nI _ = nI _
      rw [nz_congr d1, nz_PR d2]
theorem oq_number {g : Nat → Int64} {made : Int32} (hS : SingleOk g made) (k1 top code way k2 : Nat → Int32) (poly th : Nat → Int64) (steps : Nat → Int32) (a1 a2 a3 a4 a5 : Int32) : ∃ (r5 : Int32 × (Nat → Int32) × (Nat → Int64) × (Nat → Int32) × (Nat → Int32) × (Nat → Int32) × Int32) (r6 : Int32 × (Nat → Int32) × (Nat → Int64) × (Nat → Int64) × (Nat → Int32)), fX5_number k1 g top code way made a1 a2 a3 a4 a5 = some r5 ∧ fX6_number k2 poly th steps a1 a2 a3 a4 a5 = some r6 ∧ r5.1 = r6.1 ∧ SingleOk r5.2.2.1 r5.2.2.2.2.2.2 := by
  obtain ⟨q1, q2, h⟩ := fit_cases k1 k2 a1
  have h10 : ¬ nI 1 = nI 0 := by decide
  rcases h with ⟨h1, h2⟩ | ⟨h1, h2, h3⟩ | ⟨x, w, hx, h1, h2, h3, h4, h5, h6⟩
  · refine ⟨(-nI 2, q1, g, top, code, way, made), (-nI 2, q2, poly, th, steps), ?_, ?_, rfl, hS⟩
    · simp only [fX5_number, h1, bd_go, i_lit]
      rw [if_pos trivial]
    · simp only [fX6_number, h2, bd_go, i_lit]
      rw [if_pos trivial]
  · by_cases hn : a2 < nI 0 ∨ a3 < nI 0 ∨ a4 < nI 0 ∨ a5 < nI 0
    · refine ⟨(-nI 2, q1, g, top, code, way, made), (-nI 2, q2, poly, th, steps), ?_, ?_, rfl, hS⟩
      · simp only [fX5_number, h1, bd_go, i_lit, anyNeg_5]
        rw [if_neg (by decide : ¬ -nI 3 = -nI 2), if_pos hn, if_neg h10]
      · simp only [fX6_number, h2, bd_go, i_lit]
        rw [if_neg h10, neg4, if_pos hn]
    · refine ⟨(-nI 3, q1, g, top, code, way, made), (-nI 3, q2, poly, th, steps), ?_, ?_, rfl, hS⟩
      · simp only [fX5_number, h1, bd_go, i_lit, anyNeg_5]
        rw [if_neg (by decide : ¬ -nI 3 = -nI 2), if_neg hn, if_pos rfl, if_neg (by decide : ¬ nI 0 ≤ -nI 3)]
      · simp only [fX6_number, h2, bd_go, i_lit, h3]
        rw [if_neg h10, neg4, if_neg hn, if_pos trivial]
  · by_cases hn : a2 < nI 0 ∨ a3 < nI 0 ∨ a4 < nI 0 ∨ a5 < nI 0
    · refine ⟨(-nI 2, q1, g, top, code, way, made), (-nI 2, q2, poly, th, steps), ?_, ?_, rfl, hS⟩
      · simp only [fX5_number, h1, bd_go, i_lit, anyNeg_5]
        rw [if_neg (nI_ne_neg (by omega) (by decide) (by decide)), if_pos hn, if_neg h10]
      · simp only [fX6_number, h2, bd_go, i_lit]
        rw [if_neg h10, neg4, if_pos hn]
    · obtain ⟨g', t', c', w', e1, d1⟩ := make_4 hS top code way hx
      obtain ⟨p', th', s', r', e2, d2⟩ := findS_6 poly th steps h4 h5
      rcases four a2 a3 a4 a5 with h4 | ⟨a, b, c, d, ha, hb, hc, hd, rfl, rfl, rfl, rfl⟩
      · refine ⟨(Int64.toInt32 0, q1, g', t', c', w', nI x), (nI 0, r', p', th', s'), ?_, ?_, rfl, Or.inr ⟨x, hx, rfl, d1⟩⟩
        · simp only [fX5_number, h1, bd_go, i_lit, anyNeg_5, e1, cellOf_out _ _ _ _ h4, at_m1]
          rw [if_neg (nI_ne_neg (by omega) (by decide) (by decide)), if_neg hn, if_pos rfl, if_pos (nI_nn hx)]
        · simp only [fX6_number, h2, bd_go, i_lit, h3, e2, isCell_out _ _ _ _ h4]
          rw [if_neg h10, neg4, if_neg hn, if_neg h10, if_pos trivial]
      · refine ⟨(Int64.toInt32 (g' (ic a b c d)), q1, g', t', c', w', nI x), (Int64.toInt32 (p' (ir a b c d)), r', p', th', s'), ?_, ?_, ?_, Or.inr ⟨x, hx, rfl, d1⟩⟩
        · simp only [fX5_number, h1, bd_go, i_lit, anyNeg_5, e1, cellOf_in ha hb hc hd, at_n (ic_lt ha hb hc hd)]
          rw [if_neg (nI_ne_neg (by omega) (by decide) (by decide)), if_neg hn, if_pos rfl, if_pos (nI_nn hx)]
        · simp only [fX6_number, h2, bd_go, i_lit, h3, e2, isCell_in ha hb hc hd, cellOf_6, gJ_at (ir_lt ha hb hc hd) (by decide : 3024 < 2 ^ 31)]
          rw [if_neg h10, neg4, if_neg hn, if_neg h10, if_neg h10]
        · show Int64.toInt32 _ = Int64.toInt32 _
          rw [d1 _ (ic_lt ha hb hc hd), d2 a b c d ha hb hc hd]
/-! value -/
def pw (x : Int64) : Nat → Int64
  | 0 => 1
  | n + 1 => pw x n * x
theorem power_L (p0 : Int32) {n : Nat} (hn : n < 2 ^ 31) : ∀ (m fl k : Nat), k + m = n → m < fl → fX6_power_L5 p0 (nI n) fl (pw p0.toInt64 k) (nI k) = some (pw p0.toInt64 n) := by
  intro m
  induction m with
  | zero =>
    intro fl k hk hf
    obtain ⟨fl, rfl⟩ : ∃ q, fl = q + 1 := ⟨fl - 1, by omega⟩
    simp only [fX6_power_L5]
    rw [if_pos ((nI_leI (by omega) (by omega)).mpr (by omega)), show k = n by omega]
  | succ m ih =>
    intro fl k hk hf
    obtain ⟨fl, rfl⟩ : ∃ q, fl = q + 1 := ⟨fl - 1, by omega⟩
    simp only [fX6_power_L5, nmE, i_lit, nI_add]
    rw [if_neg (fun q => by rw [nI_leI (by omega) (by omega)] at q; omega)]
    exact ih fl (k + 1) (by omega) (by omega)
theorem power_6 (p0 : Int32) {n : Nat} (hn : n ≤ 100) : fX6_power p0 (nI n) = some (pw p0.toInt64 n) := by
  simp only [fX6_power, i_lit]
  exact power_L p0 (by omega) n fu 0 (Nat.zero_add n) (by rw [fu_s]; omega)
theorem sJ_shift (f : Nat → Int64) (a : Nat) : ∀ (n b : Nat), sJ f (a + b) n = sJ (fun r => f (a + r)) b n := by
  intro n
  induction n with
  | zero => intro b; rfl
  | succ n ih => intro b; simp only [sJ]; rw [show a + b + 1 = a + (b + 1) by omega, ih (b + 1)]
theorem sJ_nest (f : Nat → Int64) (m : Nat) : ∀ n, sJ f 0 (n * m) = sJ (fun q => sJ (fun r => f (q * m + r)) 0 m) 0 n := by
  intro n
  induction n with
  | zero => rw [Nat.zero_mul]; rfl
  | succ n ih =>
    rw [Nat.succ_mul, sJ_split, sJ_last, ih, Nat.zero_add, Nat.zero_add]
    congr 1
    exact sJ_shift f (n * m) m 0
theorem sJ_mulr (c : Int64) (f : Nat → Int64) (n a : Nat) : sJ f a n * c = sJ (fun x => f x * c) a n := by
  rw [show sJ f a n * c = c * sJ f a n by grind, ← sJ_mul]
  exact sJ_congr _ _ (fun k _ _ => by grind)
def V1 (g : Nat → Int64) (x1 : Int64) (b c d : Nat) : Int64 := sJ (fun e => g (ic 0 b c d + e) * pw x1 e) 0 9
def V2 (g : Nat → Int64) (x1 x2 : Int64) (c d : Nat) : Int64 := sJ (fun b => V1 g x1 b c d * pw x2 b) 0 8
def V3 (g : Nat → Int64) (x1 x2 x3 : Int64) (d : Nat) : Int64 := sJ (fun c => V2 g x1 x2 c d * pw x3 c) 0 7
def V4 (g : Nat → Int64) (x1 x2 x3 x4 : Int64) : Int64 := sJ (fun d => V3 g x1 x2 x3 d * pw x4 d) 0 6
theorem m1_neg : nI 0 + -nI 1 < nI 0 := by decide
theorem z_add (a b : Int64) : 0 * a + b = b := by grind
theorem z0_add (a : Int64) : 0 + a = a := by grind
theorem hn_1 (A x y c s : Int64) : (A * x + c) * y + s = A * (y * x) + (s + c * y) := by grind
theorem pw_s (x : Int64) (n : Nat) : pw x (n + 1) = pw x n * x := rfl
theorem line_L {g : Nat → Int64} {st : Nat} (hst : st + 9 ≤ 3024) (p2 : Int32) : ∀ (n fl : Nat) (A : Int64), n ≤ 9 → n < fl → fX2_valueOfLine_L9 g (nI st) p2 fl A (nI n + -nI 1) = some (A * pw p2.toInt64 n + sJ (fun e => g (st + e) * pw p2.toInt64 e) 0 n) := by
  intro n
  induction n with
  | zero =>
    intro fl A h9 hf
    obtain ⟨fl, rfl⟩ : ∃ q, fl = q + 1 := ⟨fl - 1, by omega⟩
    simp only [fX2_valueOfLine_L9, i_lit]
    rw [if_pos m1_neg]
    simp only [pw, sJ]
    congr 1
    grind
  | succ n ih =>
    intro fl A h9 hf
    obtain ⟨fl, rfl⟩ : ∃ q, fl = q + 1 := ⟨fl - 1, by omega⟩
    rw [nI_dec (by omega), show n + 1 - 1 = n by omega]
    simp only [fX2_valueOfLine_L9, i_lit, nmE]
    rw [if_neg (nI_nl (by omega)), nI_add, at_n (by omega), bd_some, ih fl _ (by omega) (by omega), sJ_last, Nat.zero_add, pw_s, hn_1]
theorem line_2 {g : Nat → Int64} {b c d : Nat} (hb : b ≤ 7) (hc : c ≤ 6) (hd : d ≤ 5) (p2 : Int32) : fX2_valueOfLine g (nI (ic 0 b c d)) p2 = some (V1 g p2.toInt64 b c d) := by
  have hl : ic 0 b c d + 9 ≤ 3024 := by unfold ic; omega
  have := line_L (g := g) hl p2 9 fu 0 (Nat.le_refl _) (by rw [fu_s]; omega)
  simp only [fX2_valueOfLine, i_lit, nmE]
  rw [gI_at (by decide) (by decide), most_at 1 (by decide) (by decide), show nI (9 - 1) = nI 9 + -nI 1 by decide, this, z_add]
  rfl
theorem val_L40 {g : Nat → Int64} {p1 p2 p3 p4 : Int32} {rec10 : Int64 → Int32 → Option Int64} {rec25 : Int64 → Int32 → Int64 → Int32 → Option Int64} {x5 x8 : Int64} {c d : Nat} (hc : c ≤ 6) (hd : d ≤ 5) : ∀ (n fl : Nat) (A : Int64), n ≤ 8 → n < fl → fX2_valueAt_L40 g p1 p2 p3 p4 rec10 rec25 fl x5 (nI d) x8 (nI c) A (nI n + -nI 1) = rec25 x5 (nI d) (x8 * p3.toInt64 + (A * pw p2.toInt64 n + sJ (fun b => V1 g p1.toInt64 b c d * pw p2.toInt64 b) 0 n)) (nI c + -nI 1) := by
  intro n
  induction n with
  | zero =>
    intro fl A h8 hf
    obtain ⟨fl, rfl⟩ : ∃ q, fl = q + 1 := ⟨fl - 1, by omega⟩
    simp only [fX2_valueAt_L40, i_lit, nmE]
    rw [if_pos m1_neg]
    simp only [pw, sJ]
    rw [show A * 1 + 0 = A by grind]
  | succ n ih =>
    intro fl A h8 hf
    obtain ⟨fl, rfl⟩ : ∃ q, fl = q + 1 := ⟨fl - 1, by omega⟩
    rw [nI_dec (by omega), show n + 1 - 1 = n by omega]
    simp only [fX2_valueAt_L40, i_lit, nmE]
    rw [if_neg (nI_nl (by omega)), cellOf_in (by decide) (by omega) hc hd, bd_some, line_2 (by omega) hc hd, bd_some, ih fl _ (by omega) (by omega), sJ_last, Nat.zero_add, pw_s, hn_1]
theorem val_L25 {g : Nat → Int64} {p1 p2 p3 p4 : Int32} {rec10 : Int64 → Int32 → Option Int64} {x5 : Int64} {d : Nat} (hd : d ≤ 5) : ∀ (n fl : Nat) (A : Int64), n ≤ 7 → n < fl → fX2_valueAt_L25 g p1 p2 p3 p4 rec10 fl x5 (nI d) A (nI n + -nI 1) = rec10 (x5 * p4.toInt64 + (A * pw p3.toInt64 n + sJ (fun c => V2 g p1.toInt64 p2.toInt64 c d * pw p3.toInt64 c) 0 n)) (nI d + -nI 1) := by
  intro n
  induction n with
  | zero =>
    intro fl A h8 hf
    obtain ⟨fl, rfl⟩ : ∃ q, fl = q + 1 := ⟨fl - 1, by omega⟩
    simp only [fX2_valueAt_L25, i_lit, nmE]
    rw [if_pos m1_neg]
    simp only [pw, sJ]
    rw [show A * 1 + 0 = A by grind]
  | succ n ih =>
    intro fl A h8 hf
    obtain ⟨fl, rfl⟩ : ∃ q, fl = q + 1 := ⟨fl - 1, by omega⟩
    rw [nI_dec (by omega), show n + 1 - 1 = n by omega]
    simp only [fX2_valueAt_L25, i_lit, nmE]
    rw [if_neg (nI_nl (by omega)), gI_at (by decide) (by decide), most_at 2 (by decide) (by decide), show nI (9 - 2) = nI 8 + -nI 1 by decide, val_L40 (by omega) hd 8 fu _ (Nat.le_refl _) (by rw [fu_s]; omega), z_add, show sJ (fun b => V1 g p1.toInt64 b n d * pw p2.toInt64 b) 0 8 = V2 g p1.toInt64 p2.toInt64 n d from rfl, ih fl _ (by omega) (by omega), sJ_last (fun c => V2 g p1.toInt64 p2.toInt64 c d * pw p3.toInt64 c) n 0, Nat.zero_add, pw_s, hn_1]
theorem val_L10 {g : Nat → Int64} {p1 p2 p3 p4 : Int32} : ∀ (n fl : Nat) (A : Int64), n ≤ 6 → n < fl → fX2_valueAt_L10 g p1 p2 p3 p4 fl A (nI n + -nI 1) = some (A * pw p4.toInt64 n + sJ (fun d => V3 g p1.toInt64 p2.toInt64 p3.toInt64 d * pw p4.toInt64 d) 0 n) := by
  intro n
  induction n with
  | zero =>
    intro fl A h8 hf
    obtain ⟨fl, rfl⟩ : ∃ q, fl = q + 1 := ⟨fl - 1, by omega⟩
    simp only [fX2_valueAt_L10, i_lit, nmE]
    rw [if_pos m1_neg]
    simp only [pw, sJ]
    rw [show A * 1 + 0 = A by grind]
  | succ n ih =>
    intro fl A h8 hf
    obtain ⟨fl, rfl⟩ : ∃ q, fl = q + 1 := ⟨fl - 1, by omega⟩
    rw [nI_dec (by omega), show n + 1 - 1 = n by omega]
    simp only [fX2_valueAt_L10, i_lit, nmE]
    rw [if_neg (nI_nl (by omega)), gI_at (by decide) (by decide), most_at 3 (by decide) (by decide), show nI (9 - 3) = nI 7 + -nI 1 by decide, val_L25 (by omega) 7 fu _ (Nat.le_refl _) (by rw [fu_s]; omega), z_add, show sJ (fun c => V2 g p1.toInt64 p2.toInt64 c n * pw p3.toInt64 c) 0 7 = V3 g p1.toInt64 p2.toInt64 p3.toInt64 n from rfl, ih fl _ (by omega) (by omega), sJ_last (fun d => V3 g p1.toInt64 p2.toInt64 p3.toInt64 d * pw p4.toInt64 d) n 0, Nat.zero_add, pw_s, hn_1]
theorem valueAt_2 (g : Nat → Int64) (p1 p2 p3 p4 : Int32) : fX2_valueAt g p1 p2 p3 p4 = some (V4 g p1.toInt64 p2.toInt64 p3.toInt64 p4.toInt64) := by
  have := val_L10 (g := g) (p1 := p1) (p2 := p2) (p3 := p3) (p4 := p4) 6 fu 0 (Nat.le_refl _) (by rw [fu_s]; omega)
  simp only [fX2_valueAt, i_lit, nmE]
  rw [gI_at (by decide) (by decide), most_at 4 (by decide) (by decide), show nI (9 - 4) = nI 6 + -nI 1 by decide, this, z_add]
  rfl
def vt (p : Nat → Int64) (x1 x2 x3 x4 : Int64) (y : Nat) : Int64 := p y * pw x1 (xr y 1) * pw x2 (xr y 2) * pw x3 (xr y 3) * pw x4 (xr y 4)
theorem val6_L {p1 p2 p3 p4 p5 : Int32} {one : Nat → Int32} {p th : Nat → Int64} {steps : Nat → Int32} : ∀ (n fl x : Nat) (A : Int64), x + n = 3024 → n < fl → fX6_value_L69 p1 p2 p3 p4 p5 fl one p th steps A (nI x) = some (A + sJ (vt p p2.toInt64 p3.toInt64 p4.toInt64 p5.toInt64) x n, one, p, th, steps) := by
  intro n
  induction n with
  | zero =>
    intro fl x A hx hf
    obtain ⟨fl, rfl⟩ : ∃ q, fl = q + 1 := ⟨fl - 1, by omega⟩
    simp only [fX6_value_L69, i_lit]
    rw [if_pos ((nI_leI (by omega) (by omega)).mpr (by omega))]
    simp only [sJ]
    rw [show A + 0 = A by grind]
  | succ n ih =>
    intro fl x A hx hf
    obtain ⟨fl, rfl⟩ : ∃ q, fl = q + 1 := ⟨fl - 1, by omega⟩
    have hxl : x < 3024 := by omega
    obtain ⟨b1, b2, b3, b4⟩ := xr_le hxl
    simp only [fX6_value_L69, i_lit, nmE, nI_add, sJ]
    rw [if_neg (fun q => by rw [nI_leI (by omega) (by omega)] at q; omega), gJ_at hxl (by decide)]
    simp only [lgz]
    by_cases h0 : p x = 0
    · rw [if_pos h0, ih fl (x + 1) A (by omega) (by omega), show vt p p2.toInt64 p3.toInt64 p4.toInt64 p5.toInt64 x = 0 by unfold vt; rw [h0]; grind]
      rw [show ∀ s : Int64, A + (0 + s) = A + s from fun s => by grind]
    · rw [if_neg h0, gJ_at hxl (by decide), exponentAt_6 hxl (by decide) (by decide), bd_some, power_6 p2 (by omega), bd_some, exponentAt_6 hxl (by decide) (by decide), bd_some, power_6 p3 (by omega), bd_some, exponentAt_6 hxl (by decide) (by decide), bd_some, power_6 p4 (by omega), bd_some, exponentAt_6 hxl (by decide) (by decide), bd_some, power_6 p5 (by omega), bd_some, ih fl (x + 1) _ (by omega) (by omega)]
      rw [show p x * pw p2.toInt64 (xr x 1) * pw p3.toInt64 (xr x 2) * pw p4.toInt64 (xr x 3) * pw p5.toInt64 (xr x 4) = vt p p2.toInt64 p3.toInt64 p4.toInt64 p5.toInt64 x from rfl]
      rw [show ∀ s t : Int64, A + t + s = A + (t + s) from fun s t => by grind]
theorem val_eq {g p : Nat → Int64} (h : PR g p) (x1 x2 x3 x4 : Int64) : sJ (vt p x1 x2 x3 x4) 0 3024 = V4 g x1 x2 x3 x4 := by
  rw [sJ_re, show (3024 : Nat) = 6 * 504 by decide, sJ_nest]
  unfold V4
  refine sJ_congr _ _ (fun d _ hd => ?_)
  try dsimp only
  rw [show (504 : Nat) = 7 * 72 by decide, sJ_nest]
  unfold V3
  rw [sJ_mulr]
  refine sJ_congr _ _ (fun c _ hc => ?_)
  try dsimp only
  rw [show (72 : Nat) = 8 * 9 by decide, sJ_nest]
  unfold V2
  rw [sJ_mulr, sJ_mulr]
  refine sJ_congr _ _ (fun b _ hb => ?_)
  try dsimp only
  unfold V1
  rw [sJ_mulr, sJ_mulr, sJ_mulr]
  refine sJ_congr _ _ (fun a _ ha => ?_)
  have e : d * (7 * (8 * 9)) + (c * (8 * 9) + (b * 9 + a)) = ic a b c d := by unfold ic; omega
  have e2 : ic 0 b c d + a = ic a b c d := by unfold ic; omega
  show vt p x1 x2 x3 x4 (sg (d * (7 * (8 * 9)) + (c * (8 * 9) + (b * 9 + a)))) = g (ic 0 b c d + a) * pw x1 a * pw x2 b * pw x3 c * pw x4 d
  have hlt := ic_lt (by omega : a ≤ 8) (by omega : b ≤ 7) (by omega : c ≤ 6) (by omega : d ≤ 5)
  obtain ⟨y1, y2, y3, y4⟩ := xc_ic (by omega : a ≤ 8) (by omega : b ≤ 7) (by omega : c ≤ 6) (by omega : d ≤ 5)
  rw [e, e2]
  unfold vt
  rw [xr_sg hlt (by decide) (by decide), xr_sg hlt (by decide) (by decide), xr_sg hlt (by decide) (by decide), xr_sg hlt (by decide) (by decide), y1, y2, y3, y4, ← pr_sg h hlt]
def oP (a : Int32) : Prop := a < -nI 3 ∨ nI 3 < a
theorem oP_c (a : Int32) : oP a ∨ ¬ oP a := Classical.em _
theorem isPoint_t {a : Int32} (h : oP a) : fX5_isPoint a = some (nI 0) ∧ fX6_isX a = some (nI 0) := by
  constructor
  · simp only [fX5_isPoint, i_lit]
    rcases h with h | h
    · rw [if_pos h]
    · by_cases h2 : a < -nI 3
      · rw [if_pos h2]
      · rw [if_neg h2, if_pos h]
  · simp only [fX6_isX, within_6, bd_go, i_lit]
    have h' : a < -nI 3 ∨ nI 3 < a := h
    rw [if_pos h', bz_0]
theorem isPoint_f {a : Int32} (h : ¬ oP a) : fX5_isPoint a = some (nI 1) ∧ fX6_isX a = some (nI 1) := by
  constructor
  · simp only [fX5_isPoint, i_lit]
    rw [if_neg (fun q => h (Or.inl q)), if_neg (fun q => h (Or.inr q))]
  · simp only [fX6_isX, within_6, bd_go, i_lit]
    have h' : ¬ (a < -nI 3 ∨ nI 3 < a) := h
    rw [if_neg h', bz_1]
theorem value6_ok (p1 p2 p3 p4 p5 : Int32) (one : Nat → Int32) (p th : Nat → Int64) (steps : Nat → Int32) {g : Nat → Int64} (h : PR g p) : fX6_value_L69 p1 p2 p3 p4 p5 fu one p th steps 0 (nI 0) = some (V4 g p2.toInt64 p3.toInt64 p4.toInt64 p5.toInt64, one, p, th, steps) := by
  have := val6_L (p1 := p1) (p2 := p2) (p3 := p3) (p4 := p4) (p5 := p5) (one := one) (p := p) (th := th) (steps := steps) 3024 fu 0 0 rfl (by rw [fu_s]; omega)
  rw [z0_add, val_eq h] at this
  exact this
def lost_ : Int64 := -9223372036854775808
theorem lost_e : (-9223372036854775808 : Int64) = lost_ := rfl
theorem value_lost (k2 q2 steps : Nat → Int32) (poly th : Nat → Int64) (a1 a2 a3 a4 a5 : Int32) (hh : fX6_lays k2 a1 = some (nI 0, q2) ∨ fX6_lays k2 a1 = some (nI 1, q2) ∧ (fX6_isFit q2 = some (nI 0) ∨ fX6_isFit q2 = some (nI 1) ∧ (oP a2 ∨ oP a3 ∨ oP a4 ∨ oP a5))) : fX6_value k2 poly th steps a1 a2 a3 a4 a5 = some (lost_, q2, poly, th, steps) := by
  rw [← lost_e]
  have h10 : ¬ nI 1 = nI 0 := by decide
  revert hh
  rintro (e | ⟨e, hh⟩)
  · simp only [fX6_value, e, bd_go, i_lit]
    rw [if_pos trivial]
  · simp only [fX6_value, e, bd_go, i_lit]
    rw [if_neg h10]
    rcases oP_c a2 with p2 | p2
    · rw [(isPoint_t p2).2, bd_some, if_pos rfl]
    · rw [(isPoint_f p2).2, bd_some, if_neg h10]
      rcases oP_c a3 with p3 | p3
      · rw [(isPoint_t p3).2, bd_some, if_pos rfl]
      · rw [(isPoint_f p3).2, bd_some, if_neg h10]
        rcases oP_c a4 with p4 | p4
        · rw [(isPoint_t p4).2, bd_some, if_pos rfl]
        · rw [(isPoint_f p4).2, bd_some, if_neg h10]
          rcases oP_c a5 with p5 | p5
          · rw [(isPoint_t p5).2, bd_some, if_pos rfl]
          · rw [(isPoint_f p5).2, bd_some, if_neg h10]
            rcases hh with hh | ⟨_, hh⟩
            · rw [hh, bd_some, if_pos rfl]
            · exfalso
              rcases hh with hh | hh | hh | hh
              · exact p2 hh
              · exact p3 hh
              · exact p4 hh
              · exact p5 hh
theorem oq_value {g : Nat → Int64} {made : Int32} (hS : SingleOk g made) (k1 top code way k2 : Nat → Int32) (poly th : Nat → Int64) (steps : Nat → Int32) (a1 a2 a3 a4 a5 : Int32) : ∃ (r5 : Int64 × (Nat → Int32) × (Nat → Int64) × (Nat → Int32) × (Nat → Int32) × (Nat → Int32) × Int32) (r6 : Int64 × (Nat → Int32) × (Nat → Int64) × (Nat → Int64) × (Nat → Int32)), fX5_value k1 g top code way made a1 a2 a3 a4 a5 = some r5 ∧ fX6_value k2 poly th steps a1 a2 a3 a4 a5 = some r6 ∧ r5.1 = r6.1 ∧ SingleOk r5.2.2.1 r5.2.2.2.2.2.2 := by
  obtain ⟨q1, q2, h⟩ := fit_cases k1 k2 a1
  have h10 : ¬ nI 1 = nI 0 := by decide
  have hlost := value_lost k2 q2 steps poly th a1 a2 a3 a4 a5
  obtain ⟨L, hL⟩ : ∃ L, L = lost_ := ⟨_, rfl⟩
  rw [← hL] at hlost
  rcases h with ⟨h1, h2⟩ | ⟨h1, h2, h3⟩ | ⟨x, w, hx, h1, h2, h3, h4, h5, h6⟩
  · refine ⟨(L, q1, g, top, code, way, made), (L, q2, poly, th, steps), ?_, hlost (Or.inl h2), rfl, hS⟩
    rw [hL, ← lost_e]
    simp only [fX5_value, h1, bd_go, i_lit]
    rw [if_pos (by decide : -nI 2 < nI 0)]
  · refine ⟨(L, q1, g, top, code, way, made), (L, q2, poly, th, steps), ?_, hlost (Or.inr ⟨h2, Or.inl h3⟩), rfl, hS⟩
    rw [hL, ← lost_e]
    simp only [fX5_value, h1, bd_go, i_lit]
    rw [if_pos (by decide : -nI 3 < nI 0)]
  · by_cases hp : oP a2 ∨ oP a3 ∨ oP a4 ∨ oP a5
    · refine ⟨(L, q1, g, top, code, way, made), (L, q2, poly, th, steps), ?_, hlost (Or.inr ⟨h2, Or.inr ⟨h3, hp⟩⟩), rfl, hS⟩
      rw [hL, ← lost_e]
      simp only [fX5_value, h1, bd_go, i_lit]
      rw [if_neg (nI_nl hx)]
      rcases oP_c a2 with p2 | p2
      · rw [(isPoint_t p2).1, bd_some, if_pos rfl]
      · rw [(isPoint_f p2).1, bd_some, if_neg h10]
        rcases oP_c a3 with p3 | p3
        · rw [(isPoint_t p3).1, bd_some, if_pos rfl]
        · rw [(isPoint_f p3).1, bd_some, if_neg h10]
          rcases oP_c a4 with p4 | p4
          · rw [(isPoint_t p4).1, bd_some, if_pos rfl]
          · rw [(isPoint_f p4).1, bd_some, if_neg h10]
            rcases hp with hh | hh | hh | hh
            · exact absurd hh p2
            · exact absurd hh p3
            · exact absurd hh p4
            · rw [(isPoint_t hh).1, bd_some, if_pos rfl]
    · have p2 : ¬ oP a2 := fun q => hp (Or.inl q)
      have p3 : ¬ oP a3 := fun q => hp (Or.inr (Or.inl q))
      have p4 : ¬ oP a4 := fun q => hp (Or.inr (Or.inr (Or.inl q)))
      have p5 : ¬ oP a5 := fun q => hp (Or.inr (Or.inr (Or.inr q)))
      obtain ⟨g', t', c', w', e1, d1⟩ := make_4 hS top code way hx
      obtain ⟨p', th', s', r', e2, d2⟩ := findS_6 poly th steps h4 h5
      have v5 := valueAt_2 g' a2 a3 a4 a5
      have v6 := value6_ok a1 a2 a3 a4 a5 r' p' th' s' (d2.congr d1)
      generalize V4 g' a2.toInt64 a3.toInt64 a4.toInt64 a5.toInt64 = V at v5 v6
      refine ⟨(V, q1, g', t', c', w', nI x), (V, r', p', th', s'), ?_, ?_, rfl, Or.inr ⟨x, hx, rfl, d1⟩⟩
      · simp only [fX5_value, h1, bd_go, i_lit, e1, v5, (isPoint_f p2).1, (isPoint_f p3).1, (isPoint_f p4).1, (isPoint_f p5).1]
        rw [if_neg (nI_nl hx), if_neg h10, if_neg h10, if_neg h10, if_neg h10]
      · simp only [fX6_value, h2, bd_go, i_lit]
        rw [if_neg h10, (isPoint_f p2).2, bd_some, if_neg h10, (isPoint_f p3).2, bd_some, if_neg h10, (isPoint_f p4).2, bd_some, if_neg h10, (isPoint_f p5).2, bd_some, if_neg h10, h3, bd_some, if_neg h10, e2, bd_some]
        exact v6
