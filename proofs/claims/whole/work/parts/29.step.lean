/-! ===== steps, shapes ===== -/
def dn (f : Nat → Bool) : Nat → Nat
  | 0 => 0
  | k + 1 => if f (k + 1) then k + 1 else dn f k
theorem dn_congr {f g : Nat → Bool} : ∀ k, (∀ j, 1 ≤ j → j ≤ k → f j = g j) → dn f k = dn g k := by
  intro k
  induction k with
  | zero => intro _; rfl
  | succ k ih => intro h; simp only [dn]; rw [h (k + 1) (by omega) (by omega), ih (fun j h1 h2 => h j h1 (by omega))]
def oneB (s : Nat) : Bool := s == 2 || s == 4 || s == 8 || s == 16 || s == 32 || s == 64 || s == 128 || s == 256
theorem desc_bits : ∀ b1 b2 b3 b4 b5 b6 b7 b8 : Bool, ∀ f : Nat → Bool, f = (fun k => if k = 1 then b1 else if k = 2 then b2 else if k = 3 then b3 else if k = 4 then b4 else if k = 5 then b5 else if k = 6 then b6 else if k = 7 then b7 else b8) → lB f 8 0 1 = dn f 8 ∧ (dB f 8 0 1 = 0 ↔ dn f 8 = 0) := by
  intro b1 b2 b3 b4 b5 b6 b7 b8 f hf
  subst hf
  revert b1 b2 b3 b4 b5 b6 b7 b8
  decide
theorem dn_iff (w : Nat → Nat) : dlast w = dn (dsc w) 8 ∧ (dset w = 0 ↔ dn (dsc w) 8 = 0) := by
  unfold dset dlast
  rw [dB_congr 8 0 1 (eight (f := dsc w)), lB_congr 8 0 1 (eight (f := dsc w)), dn_congr (f := dsc w) 8 (fun j h1 h2 => eight (f := dsc w) j h1 (by omega))]
  exact desc_bits _ _ _ _ _ _ _ _ _ rfl
theorem dn_in (f : Nat → Bool) : ∀ k, dn f k ≤ k ∧ (dn f k ≠ 0 → f (dn f k) = true) := by
  intro k
  induction k with
  | zero => exact ⟨Nat.le_refl _, fun h => absurd rfl h⟩
  | succ k ih =>
    simp only [dn]
    cases h : f (k + 1) with
    | true => rw [if_pos rfl]; exact ⟨Nat.le_refl _, fun _ => h⟩
    | false => rw [if_neg (by decide : ¬ false = true)]; exact ⟨by omega, ih.2⟩
theorem lastD_L {row : Nat → Int32} {w : Nat → Nat} (h : Dg row w) (hp : Pm w) : ∀ (k fl : Nat), k ≤ 8 → k < fl → dn (dsc w) k ≠ 0 → fX6_lastDescent_L3 row fl (nI k) = some (nI (dn (dsc w) k)) := by
  intro k
  induction k with
  | zero => intro fl _ _ h0; exact absurd rfl h0
  | succ k ih =>
    intro fl hk hf h0
    obtain ⟨fl, rfl⟩ : ∃ q, fl = q + 1 := ⟨fl - 1, by omega⟩
    have wa := h (k + 1) (by omega) (by omega)
    have wb := h (k + 1 + 1) (by omega) (by omega)
    simp only [fX6_lastDescent_L3, i_lit, nmE, nI_add]
    simp (disch := omega) only [gI_at, wa.1, wb.1, nI_leI, nI_dec]
    simp only [dn] at h0 ⊢
    by_cases hc : w (k + 1 + 1) ≤ w (k + 1)
    · have : w (k + 1 + 1) < w (k + 1) := by
        rcases Nat.lt_or_ge (w (k + 1 + 1)) (w (k + 1)) with q | q
        · exact q
        · have := hp (k + 1 + 1) (k + 1) (by omega) (by omega) (by omega) (by omega) (by omega)
          omega
      rw [if_pos hc, show dsc w (k + 1) = true from decide_eq_true this, if_pos rfl]
    · have e : dsc w (k + 1) = false := decide_eq_false (by omega)
      rw [e, if_neg (by decide : ¬ false = true)] at h0
      rw [if_neg hc, e, if_neg (by decide : ¬ false = true)]
      exact ih fl (by omega) (by omega) h0
theorem lastD_6 {row : Nat → Int32} {w : Nat → Nat} (h : Dg row w) (hp : Pm w) (h0 : dlast w ≠ 0) : fX6_lastDescent row = some (nI (dlast w)) := by
  rw [(dn_iff w).1] at h0 ⊢
  simp only [fX6_lastDescent, i_lit]
  exact lastD_L h hp 8 fu (by decide) (by rw [fu_s]; omega) h0
/-- the last place up to k with less than at r -/
def sd (w : Nat → Nat) (r : Nat) : Nat → Nat
  | 0 => 0
  | k + 1 => if w (k + 1) < w r then k + 1 else sd w r k
theorem sd_in (w : Nat → Nat) (r : Nat) : ∀ k, sd w r k ≤ k ∧ (∀ j, j ≤ k → 1 ≤ j → w j < w r → 1 ≤ sd w r k) := by
  intro k
  induction k with
  | zero => exact ⟨Nat.le_refl _, fun j h1 h2 => by omega⟩
  | succ k ih =>
    simp only [sd]
    split
    · exact ⟨Nat.le_refl _, fun _ _ _ _ => by omega⟩
    · rename_i hn
      refine ⟨by omega, fun j h1 h2 h3 => ?_⟩
      by_cases e : j = k + 1
      · subst e; exact absurd h3 hn
      · exact ih.2 j (by omega) h2 h3
def sdo (w : Nat → Nat) (r k : Nat) : Nat := if sd w r k = 0 then r else sd w r k
theorem sdo_s (w : Nat → Nat) (r k : Nat) : sdo w r (k + 1) = if w (k + 1) < w r then k + 1 else sdo w r k := by
  unfold sdo
  have e : sd w r (k + 1) = if w (k + 1) < w r then k + 1 else sd w r k := rfl
  rw [e]
  by_cases h : w (k + 1) < w r
  · rw [if_pos h, if_neg (by omega), if_pos h]
  · rw [if_neg h, if_neg h]
theorem lastLess_L {row : Nat → Int32} {w : Nat → Nat} (h : Dg row w) {r : Nat} (hr : 1 ≤ r) (hr9 : r ≤ 9) : ∀ (m fl j : Nat), j + m = 9 → m + 1 < fl → fX1_lastLessThan_L4 row (nI r) fl (nI (sdo w r j)) (nI (j + 1)) = some (nI (sdo w r 9)) := by
  intro m
  induction m with
  | zero =>
    intro fl j hj hf
    obtain ⟨fl, rfl⟩ : ∃ q, fl = q + 1 := ⟨fl - 1, by omega⟩
    have e : j = 9 := by omega
    simp only [fX1_lastLessThan_L4, i_lit]
    rw [if_pos ((nI_ltI (by omega) (by omega)).mpr (by omega)), e]
  | succ m ih =>
    intro fl j hj hf
    obtain ⟨fl, rfl⟩ : ∃ q, fl = q + 1 := ⟨fl - 1, by omega⟩
    have wj := h (j + 1) (by omega) (by omega)
    have wr := h r hr hr9
    have := ih fl (j + 1) (by omega) (by omega)
    rw [sdo_s] at this
    simp only [fX1_lastLessThan_L4, i_lit, nmE, nI_add, digit_at h hr hr9, bd_some]
    rw [if_neg (fun q => by rw [nI_ltI (by omega) (by omega)] at q; omega)]
    simp (disch := omega) only [gI_at, wj.1, nI_leI]
    by_cases hc : w r ≤ w (j + 1)
    · rw [if_pos hc]
      rw [if_neg (by omega : ¬ w (j + 1) < w r)] at this
      exact this
    · rw [if_neg hc]
      rw [if_pos (by omega : w (j + 1) < w r)] at this
      exact this
theorem lastLess_1 {row : Nat → Int32} {w : Nat → Nat} (h : Dg row w) {r : Nat} (hr : 1 ≤ r) (hr8 : r ≤ 8) (hd : w (r + 1) < w r) : fX1_lastLessThan row (nI r) = some (nI (sd w r 9)) := by
  have h1 := (sd_in w r 9).2 (r + 1) (by omega) (by omega) hd
  have := lastLess_L h hr (by omega) 9 fu 0 rfl (by rw [fu_s]; omega)
  have e9 : sdo w r 9 = sd w r 9 := if_neg (by omega)
  have e0 : sdo w r 0 = r := rfl
  rw [e9, e0] at this
  simp only [fX1_lastLessThan, i_lit]
  exact this
theorem stepS_L {p1 p2 : Int32} {row : Nat → Int32} {w : Nat → Nat} (h : Dg row w) {r : Nat} (hr : 1 ≤ r) (hr9 : r ≤ 9) {x3 n0 : Int32} {g0 : Nat → Int32} : ∀ (k fl : Nat), k ≤ 9 → k < fl → 1 ≤ sd w r k → fX6_step_L54 p1 p2 fl row n0 g0 x3 (nI r) (nI k) = bd (fX6_exchange row (nI r) (nI (sd w r k))) (fun r10 => bd (fX6_plainOf r10) (fun r11 => fX6_step_L105 p1 p2 fu r10 (nI 0) g0 x3 (nI r) (nI (sd w r k)) r11 (nI 1))) := by
  intro k
  induction k with
  | zero => intro fl _ _ h0; simp [sd] at h0
  | succ k ih =>
    intro fl hk hf h0
    obtain ⟨fl, rfl⟩ : ∃ q, fl = q + 1 := ⟨fl - 1, by omega⟩
    have wk := h (k + 1) (by omega) (by omega)
    have wr := h r hr hr9
    simp only [fX6_step_L54, i_lit, nmE]
    simp (disch := omega) only [gI_at, wk.1, wr.1, nI_ltI, nI_dec]
    simp only [sd] at h0 ⊢
    by_cases hc : w (k + 1) < w r
    · rw [if_pos hc, if_pos hc]
    · rw [if_neg hc] at h0
      rw [if_neg hc, if_neg hc]
      exact ih fl (by omega) (by omega) h0
/-- the heirs: both go through q = 1 to r - 1 -/
theorem step_go {p1 p2 : Int32} {v : Nat → Nat} {r : Nat} (hr : 1 ≤ r) (hr9 : r ≤ 9) {L : Nat} (hL : L ≤ 81) {x5 x6 : Int32} : ∀ (m fl1 fl2 q n : Nat) (f g r1 r2 : Nat → Int32), q + m = r → 1 ≤ q → m < fl1 → m < fl2 → Dg r1 v → Dg r2 v → LsE f g n → n + m ≤ 32 → ∃ (n' : Nat) (f' g' r1' r2' : Nat → Int32), fX5_step_L103 p1 p2 fl1 r1 f (nI n) (nI r) (nI L) (nI q) = (if p2 = -nI 1 then fX5_step_b144 p1 p2 r1' f' (nI n') (-nI 1) else fX5_step_b144 p1 p2 r1' f' (nI n') (p2 - nI 1)) ∧ fX6_step_L105 p1 p2 fl2 r2 (nI n) g (nI L) (nI r) x5 x6 (nI q) = (if p2 = -nI 3 then some (nI r, r2', nI n', g') else (if p2 = -nI 2 then some (x5, r2', nI n', g') else (if p2 = -nI 1 then some (nI n', r2', nI n', g') else (if p2 = nI 0 then some (x6, r2', nI n', g') else bd (fX6_foundBy (nI n') g' (p2 - nI 1)) (fun r3 => some (r3, r2', nI n', g')))))) ∧ LsE f' g' n' ∧ n' ≤ n + m := by
  intro m
  induction m with
  | zero =>
    intro fl1 fl2 q n f g r1 r2 hq h1 hf1 hf2 d1 d2 hl hn
    obtain ⟨fl1, rfl⟩ : ∃ q, fl1 = q + 1 := ⟨fl1 - 1, by omega⟩
    obtain ⟨fl2, rfl⟩ : ∃ q, fl2 = q + 1 := ⟨fl2 - 1, by omega⟩
    refine ⟨n, f, g, r1, r2, ?_, ?_, hl, by omega⟩
    · simp only [fX5_step_L103, i_lit]
      rw [if_pos ((nI_leI (by omega) (by omega)).mpr (by omega))]
    · simp only [fX6_step_L105, i_lit]
      rw [if_pos ((nI_leI (by omega) (by omega)).mpr (by omega))]
  | succ m ih =>
    intro fl1 fl2 q n f g r1 r2 hq h1 hf1 hf2 d1 d2 hl hn
    obtain ⟨fl1, rfl⟩ : ∃ q, fl1 = q + 1 := ⟨fl1 - 1, by omega⟩
    obtain ⟨fl2, rfl⟩ : ∃ q, fl2 = q + 1 := ⟨fl2 - 1, by omega⟩
    obtain ⟨n', f', g', s1, s2, t2, q1, q2, q3, q4, q5, q6, q7, q8, q9, q10⟩ := put_ex d1 d2 hl (by omega) h1 (by omega) hr hr9 (by omega : L < 2 ^ 31)
    obtain ⟨n2, f2, g2, u1, u2, c1, c2, c3, c4⟩ := ih fl1 fl2 (q + 1) n' f' g' s1 t2 (by omega) (by omega) (by omega) (by omega) q6 q7 q8 (by omega)
    refine ⟨n2, f2, g2, u1, u2, ?_, ?_, c3, by omega⟩
    · rw [← c1]
      simp only [fX5_step_L103, i_lit, nmE, nI_add, q1, bd_some]
      rw [if_neg (fun h => by rw [nI_leI (by omega) (by omega)] at h; omega)]
    · rw [← c2]
      have hle := ln_le (sw v q r)
      simp only [fX6_step_L105, fX6_step_b145, i_lit, nmE, nI_add, q2, q3, q4, q5, bd_some]
      rw [if_neg (fun h => by rw [nI_leI (by omega) (by omega)] at h; omega)]
      rcases q10 with ⟨x1, x2⟩ | ⟨x1, x2, x3⟩
      · rw [x1, if_pos rfl, x2, bd_some]
      · rw [if_neg (by rw [nI_eq (by omega) (by omega)]; exact x1), ← x2, ← x3]
theorem i_m3 (x : Int32) : (¬ -nI 3 ≤ x) ∨ x = -nI 3 ∨ x = -nI 2 ∨ x = -nI 1 ∨ ∃ k : Nat, k < 2 ^ 31 ∧ x = nI k := by
  by_cases h : -nI 3 ≤ x
  · right
    by_cases h2 : x < 0
    · rw [Int32.le_iff_toInt_le] at h
      rw [Int32.lt_iff_toInt_lt] at h2
      have e1 : (-nI 1).toInt = -1 := by decide
      have e2 : (-nI 2).toInt = -2 := by decide
      have e3 : (-nI 3).toInt = -3 := by decide
      have e0 : (0 : Int32).toInt = 0 := by decide
      rcases (show x.toInt = -3 ∨ x.toInt = -2 ∨ x.toInt = -1 by omega) with q | q | q
      · left; apply Int32.toInt_inj.mp; omega
      · right; left; apply Int32.toInt_inj.mp; omega
      · right; right; left; apply Int32.toInt_inj.mp; omega
    · right; right; right
      obtain ⟨k, hk, rfl⟩ := nI_of h2
      exact ⟨k, hk, rfl⟩
  · exact Or.inl h
theorem nI_ne_neg {k j : Nat} (hk : k < 2 ^ 31) (hj : 0 < j) (hj2 : j < 2 ^ 31) : nI k ≠ -nI j := by
  intro h
  have := congrArg Int32.toInt h
  rw [nI_toInt hk, sb_negT hj2] at this
  omega
theorem oq_step (k1 f0 : Nat → Int32) (s0 : Int32) (k2 : Nat → Int32) (n0 : Int32) (g0 : Nat → Int32) (a1 a2 : Int32) : ∃ (r5 : Int32 × (Nat → Int32) × (Nat → Int32) × Int32) (r6 : Int32 × (Nat → Int32) × Int32 × (Nat → Int32)), fX5_step k1 f0 s0 a1 a2 = some r5 ∧ fX6_step k2 n0 g0 a1 a2 = some r6 ∧ r5.1 = r6.1 := by
  obtain ⟨b, ra, rb, e1, e2, hp⟩ := read_lays k1 k2 a1
  cases b with
  | false =>
    refine ⟨(-nI 2, ra, f0, s0), (-nI 2, rb, n0, g0), ?_, ?_, rfl⟩
    · simp only [fX5_step, e1, bd_some, i_lit]; rw [if_pos fB_f]
    · simp only [fX6_step, e2, bd_some, i_lit]; rw [if_pos fB_f]
  | true =>
    obtain ⟨w, h1, h2, h3⟩ := hp rfl
    have ht : ¬ fB true = nI 0 := by decide
    have hfit := fit_iff w
    have hdn := dn_iff w
    by_cases hk : -nI 3 ≤ a2
    · by_cases hz : dlast w = 0
      · refine ⟨(-nI 3, ra, f0, s0), (-nI 3, rb, n0, g0), ?_, ?_, rfl⟩
        · simp only [fX5_step, e1, bd_some, i_lit, lastDescent_1 h1]
          rw [if_neg ht, if_pos hk, hz, if_pos rfl]
        · simp only [fX6_step, e2, bd_some, i_lit, descentsOf_6 h2]
          have hz2 : dset w = 0 := hdn.2.mpr (by rw [← hdn.1]; exact hz)
          rw [if_neg ht, if_pos hk, hz2, if_pos rfl]
      · have hz2 : dset w ≠ 0 := fun h => hz (by rw [hdn.1]; exact hdn.2.mp h)
        have hds := (dn_in (dsc w) 8).2 (by rw [← hdn.1]; exact hz)
        rw [← hdn.1] at hds
        have hd : w (dlast w + 1) < w (dlast w) := of_decide_eq_true hds
        have hr8 := hfit.2.2
        have hr1 : 1 ≤ dlast w := by omega
        have hs1 := (sd_in w (dlast w) 9).2 (dlast w + 1) (by omega) (by omega) hd
        have hs9 := (sd_in w (dlast w) 9).1
        have hln := ln_le w
        obtain ⟨s1, x1, y1⟩ := exch_1 h1 hr1 (by omega) hs1 hs9
        obtain ⟨s2, x2, y2⟩ := exch_6 h2 hr1 (by omega) hs1 hs9
        obtain ⟨n', f', g', u1, u2, z1, z2, z3, z4⟩ := step_go (p1 := a1) (p2 := a2) hr1 (by omega : dlast w ≤ 9) hln (x5 := nI (sd w (dlast w) 9)) (x6 := nI (plN (sw w (dlast w) (sd w (dlast w) 9)))) (dlast w - 1) fu fu 1 0 f0 g0 s1 s2 (by omega) (by decide) (by rw [fu_s]; omega) (by rw [fu_s]; omega) y1 y2 (fun j hj => by omega) (by omega)
        have c0 : ¬ nI (dlast w) = nI 0 := by rw [nI_eq (by omega) (by decide)]; exact hz
        have c1 : ¬ nI (dset w) = nI 0 := by rw [nI_eq (by omega) (by decide)]; exact hz2
        have five : fX5_step k1 f0 s0 a1 a2 = (if a2 = -nI 3 then some (nI (dlast w), ra, f0, s0) else (if a2 = -nI 2 then some (nI (sd w (dlast w) 9), ra, f0, s0) else (if a2 = nI 0 then some (nI (plN (sw w (dlast w) (sd w (dlast w) 9))), s1, f0, s0) else (if a2 = -nI 1 then fX5_step_b144 a1 a2 u1 f' (nI n') (-nI 1) else fX5_step_b144 a1 a2 u1 f' (nI n') (a2 - nI 1))))) := by
          simp only [fX5_step, e1, bd_some, i_lit, lastDescent_1 h1, lastLess_1 h1 hr1 hr8 hd, inversions_1 h1, x1, plainNumber_1 y1, fX0_clear]
          rw [if_neg ht, if_pos hk, if_neg c0, ← z1]
        have six : fX6_step k2 n0 g0 a1 a2 = (if a2 = -nI 3 then some (nI (dlast w), u2, nI n', g') else (if a2 = -nI 2 then some (nI (sd w (dlast w) 9), u2, nI n', g') else (if a2 = -nI 1 then some (nI n', u2, nI n', g') else (if a2 = nI 0 then some (nI (plN (sw w (dlast w) (sd w (dlast w) 9))), u2, nI n', g') else bd (fX6_foundBy (nI n') g' (a2 - nI 1)) (fun r3 => some (r3, u2, nI n', g')))))) := by
          simp only [fX6_step, e2, bd_some, i_lit, descentsOf_6 h2, lengthOf_6 h2, lastD_6 h2 h3 hz]
          rw [if_neg ht, if_pos hk, if_neg c1, stepS_L h2 hr1 (by omega) 9 fu (by decide) (by rw [fu_s]; omega) hs1, x2, bd_some, plainOf_6 y2, bd_some]
          exact z2
        rw [five, six]
        rcases i_m3 a2 with q | rfl | rfl | rfl | ⟨k, hk2, rfl⟩
        · exact absurd hk q
        · exact ⟨_, _, if_pos rfl, if_pos rfl, rfl⟩
        · rw [if_neg (by decide), if_pos rfl, if_neg (by decide), if_pos rfl]
          exact ⟨_, _, rfl, rfl, rfl⟩
        · rw [if_neg (by decide), if_neg (by decide), if_neg (by decide), if_pos rfl, if_neg (by decide), if_neg (by decide), if_pos rfl]
          obtain ⟨x, xa, xb⟩ := answers z3 (by omega) (by decide : -nI 1 ≤ -nI 1)
          refine ⟨(x, u1, f', nI n'), _, ?_, rfl, ?_⟩
          · simp only [fX5_step_b144, xa, bd_some]
          · simp only [fX6_foundBy, i_lit, if_true] at xb
            exact (Option.some.inj xb).symm
        · rw [if_neg (nI_ne_neg hk2 (by decide) (by decide)), if_neg (nI_ne_neg hk2 (by decide) (by decide)), if_neg (nI_ne_neg hk2 (by decide) (by decide)), if_neg (nI_ne_neg hk2 (by decide) (by decide)), if_neg (nI_ne_neg hk2 (by decide) (by decide)), if_neg (nI_ne_neg hk2 (by decide) (by decide))]
          by_cases h0 : k = 0
          · subst h0
            rw [if_pos rfl, if_pos rfl]
            exact ⟨_, _, rfl, rfl, rfl⟩
          · have c2 : ¬ nI k = nI 0 := by rw [nI_eq hk2 (by decide)]; exact h0
            rw [if_neg c2, if_neg c2, i_dif (by omega : 1 ≤ k)]
            have hge : -nI 1 ≤ nI (k - 1) := by
              rw [Int32.le_iff_toInt_le, nI_toInt (by omega)]
              have e1 : (-nI 1).toInt = -1 := by decide
              omega
            obtain ⟨x, xa, xb⟩ := answers z3 (by omega) hge
            refine ⟨(x, u1, f', nI n'), (x, u2, nI n', g'), ?_, ?_, rfl⟩
            · simp only [fX5_step_b144, xa, bd_some]
            · rw [xb, bd_some]
    · refine ⟨(-nI 2, ra, f0, s0), (-nI 2, rb, n0, g0), ?_, ?_, rfl⟩
      · simp only [fX5_step, e1, bd_some, i_lit]; rw [if_neg ht, if_neg hk]
      · simp only [fX6_step, e2, bd_some, i_lit]; rw [if_neg ht, if_neg hk]
