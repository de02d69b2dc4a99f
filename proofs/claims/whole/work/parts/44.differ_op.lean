/-! ===== measure; difference ===== -/
/-- the highest exponents of a grid -/
def Mx (g : Nat → Int64) (T : Nat → Nat) : Prop := (∀ y, y < 3024 → g y ≠ 0 → ∀ j, 1 ≤ j → j ≤ 4 → xc y j ≤ T j) ∧ ∀ j, 1 ≤ j → j ≤ 4 → T j = 0 ∨ ∃ y, y < 3024 ∧ g y ≠ 0 ∧ xc y j = T j
theorem fillI_L {v : Int32} {N : Nat} (hN : N < 2 ^ 31) : ∀ (n fl x : Nat) (g : Nat → Int32), x + n = N → n < fl → ∃ g', fJ7_fill_53178_L5 N v fl g (nI x) (nI N) = some g' ∧ ∀ y, g' y = if x ≤ y ∧ y < N then v else g y := by
  intro n
  induction n with
  | zero =>
    intro fl x g hx hf
    obtain ⟨fl, rfl⟩ : ∃ q, fl = q + 1 := ⟨fl - 1, by omega⟩
    refine ⟨g, ?_, fun y => by rw [if_neg (by omega)]⟩
    simp only [fJ7_fill_53178_L5]
    rw [if_pos ((nI_leI (by omega) (by omega)).mpr (by omega))]
  | succ n ih =>
    intro fl x g hx hf
    obtain ⟨fl, rfl⟩ : ∃ q, fl = q + 1 := ⟨fl - 1, by omega⟩
    obtain ⟨g', e1, e2⟩ := ih fl (x + 1) (upd g x v) (by omega) (by omega)
    refine ⟨g', ?_, fun y => ?_⟩
    · simp only [fJ7_fill_53178_L5, i_lit, nmE, nI_add]
      rw [if_neg (fun q => by rw [nI_leI (by omega) (by omega)] at q; omega), pI_at (by omega) hN]
      exact e1
    · rw [e2 y]
      by_cases c : y = x
      · rw [c, if_neg (by omega), upd_s, if_pos (by omega)]
      · rw [upd_n c]
        by_cases c2 : x + 1 ≤ y ∧ y < N
        · rw [if_pos c2, if_pos (by omega)]
        · rw [if_neg c2, if_neg (by omega)]
theorem meas_L30 {g : Nat → Int64} {x : Nat} (hx : x < 3024) {rec : (Nat → Int32) → Int32 → Option (Nat → Int32)} : ∀ (m fl j : Nat) (top : Nat → Int32) (T : Nat → Nat), j + m = 5 → 1 ≤ j → m < fl → TopOk top T → ∃ top', fX2_measure_L30 g rec fl top (nI x) (nI j) = rec top' (nI (x + 1)) ∧ TopOk top' (fun t => if j ≤ t then max (T t) (xc x t) else T t) := by
  intro m
  induction m with
  | zero =>
    intro fl j top T hj j1 hf h
    obtain ⟨fl, rfl⟩ : ∃ q, fl = q + 1 := ⟨fl - 1, by omega⟩
    refine ⟨top, ?_, fun t t1 t4 => by
      show top t = nI (if j ≤ t then _ else _) ∧ (if j ≤ t then _ else _) ≤ _
      rw [if_neg (by omega)]; exact h t t1 t4⟩
    simp only [fX2_measure_L30, i_lit, nmE, nI_add]
    rw [if_pos ((nI_ltI (by omega) (by omega)).mpr (by omega))]
  | succ m ih =>
    intro fl j top T hj j1 hf h
    obtain ⟨fl, rfl⟩ : ∃ q, fl = q + 1 := ⟨fl - 1, by omega⟩
    obtain ⟨hj1, hj2⟩ := h j j1 (by omega)
    have hxj := xc_le hx j1 (by omega : j ≤ 9)
    obtain ⟨top', e1, e2⟩ := ih fl (j + 1) (upd top j (nI (max (T j) (xc x j)))) (fun t => if t = j then max (T j) (xc x j) else T t) (by omega) (by omega) (by omega) (fun t t1 t4 => by
      show upd top j _ t = nI (if t = j then _ else _) ∧ (if t = j then _ else _) ≤ _
      by_cases c : t = j
      · rw [c, upd_s, if_pos rfl]
        exact ⟨rfl, by omega⟩
      · rw [upd_n c, if_neg c]; exact h t t1 t4)
    refine ⟨top', ?_, fun t t1 t4 => ?_⟩
    · simp only [fX2_measure_L30, i_lit, nmE, nI_add]
      rw [if_neg (fun q => by rw [nI_ltI (by omega) (by omega)] at q; omega), gI_at (by omega) (by decide), exponentAt_5 hx j1 (by omega), bd_some, pI_at (by omega) (by decide), hj1, i_max (by omega) (by omega)]
      exact e1
    · have := e2 t t1 t4
      dsimp only at this ⊢
      by_cases c : t = j
      · rw [c, if_neg (by omega), if_pos rfl] at this
        rw [c, if_pos (Nat.le_refl _)]
        exact this
      · rw [if_neg c] at this
        by_cases c2 : j + 1 ≤ t
        · rw [if_pos c2] at this
          rw [if_pos (by omega)]; exact this
        · rw [if_neg c2] at this
          rw [if_neg (by omega)]; exact this
theorem meas_L10 {g : Nat → Int64} : ∀ (m fl x : Nat) (top : Nat → Int32) (T : Nat → Nat), x + m = 3024 → m < fl → TopOk top T → (∀ y, y < x → g y ≠ 0 → ∀ j, 1 ≤ j → j ≤ 4 → xc y j ≤ T j) → (∀ j, 1 ≤ j → j ≤ 4 → T j = 0 ∨ ∃ y, y < 3024 ∧ g y ≠ 0 ∧ xc y j = T j) → ∃ top' T', fX2_measure_L10 g fl top (nI x) = some top' ∧ TopOk top' T' ∧ Mx g T' := by
  intro m
  induction m with
  | zero =>
    intro fl x top T hx hf h h1 h2
    obtain ⟨fl, rfl⟩ : ∃ q, fl = q + 1 := ⟨fl - 1, by omega⟩
    refine ⟨top, T, ?_, h, fun y hy => h1 y (by omega), h2⟩
    simp only [fX2_measure_L10, i_lit]
    rw [if_pos ((nI_leI (by omega) (by omega)).mpr (by omega))]
  | succ m ih =>
    intro fl x top T hx hf h h1 h2
    obtain ⟨fl, rfl⟩ : ∃ q, fl = q + 1 := ⟨fl - 1, by omega⟩
    have hxl : x < 3024 := by omega
    simp only [fX2_measure_L10, i_lit, nmE, nI_add]
    rw [if_neg (fun q => by rw [nI_leI (by omega) (by omega)] at q; omega), gJ_at hxl (by decide)]
    simp only [lgz]
    by_cases h0 : g x = 0
    · rw [if_pos h0]
      exact ih fl (x + 1) top T (by omega) (by omega) h (fun y hy hne => h1 y (by
        by_cases c : y = x
        · rw [c] at hne; exact absurd h0 hne
        · omega) hne) h2
    · rw [if_neg h0]
      obtain ⟨top1, e1, d1⟩ := meas_L30 (g := g) hxl (rec := fX2_measure_L10 g fl) 4 fu 1 top T rfl (by decide) (by rw [fu_s]; omega) h
      rw [e1]
      refine ih fl (x + 1) top1 _ (by omega) (by omega) d1 (fun y hy hne j j1 j4 => ?_) (fun j j1 j4 => ?_)
      · rw [if_pos j1]
        by_cases c : y = x
        · rw [c]; omega
        · have := h1 y (by omega) hne j j1 j4
          omega
      · rw [if_pos j1]
        by_cases c : T j ≤ xc x j
        · exact Or.inr ⟨x, hxl, h0, by omega⟩
        · rcases h2 j j1 j4 with q | ⟨y, a, b, d⟩
          · omega
          · exact Or.inr ⟨y, a, b, by omega⟩
theorem measure_2 (g : Nat → Int64) (top : Nat → Int32) : ∃ top' T, fX2_measure g top = some top' ∧ TopOk top' T ∧ Mx g T := by
  obtain ⟨t0, e0, d0⟩ := fillI_L (v := nI 0) (by decide : 5 < 2 ^ 31) 5 fu 0 top rfl (by rw [fu_s]; omega)
  obtain ⟨t1, T1, e1, d1, d2⟩ := meas_L10 (g := g) 3024 fu 0 t0 (fun _ => 0) rfl (by rw [fu_s]; omega) (fun t t1 t4 => ⟨by rw [d0 t, if_pos (by omega)], Nat.zero_le _⟩) (fun y hy => by omega) (fun j _ _ => Or.inl rfl)
  refine ⟨t1, T1, ?_, d1, d2⟩
  simp only [fX2_measure, fJ7_fill_53178, nm_go, i_lit, show Int32.ofNat 5 = nI 5 from rfl, e0, bd_go]
  exact e1
theorem Mx.top {g : Nat → Int64} {T : Nat → Nat} (h : Mx g T) : ∀ x, x < 3024 → (∃ j, 1 ≤ j ∧ j ≤ 4 ∧ T j < xc x j) → g x = 0 := by
  rintro x hx ⟨j, j1, j4, q⟩
  by_cases c : g x = 0
  · exact c
  · have := h.1 x hx c j j1 j4
    omega
theorem dif6_L {p1 isP : Int32} {th sheet : Nat → Int64} : ∀ (n fl x : Nat) (next : Nat → Int64), x + n = 3024 → n < fl → (∀ y, y < x → next y = sheet y) → ∃ next', fX6_difference_L14 p1 fl th sheet next isP (nI x) = bd (fX6_differs th next' p1) (fun r1 => bd (fX6_becomes sheet r1.2 isP) (fun r2 => some (r2.1, r1.1, r2.2.1, r1.2, r2.2.2))) ∧ ∀ y, y < 3024 → next' y = sheet y := by
  intro n
  induction n with
  | zero =>
    intro fl x next hx hf h
    obtain ⟨fl, rfl⟩ : ∃ q, fl = q + 1 := ⟨fl - 1, by omega⟩
    refine ⟨next, ?_, fun y hy => h y (by omega)⟩
    simp only [fX6_difference_L14, i_lit]
    rw [if_pos ((nI_leI (by omega) (by omega)).mpr (by omega))]
  | succ n ih =>
    intro fl x next hx hf h
    obtain ⟨fl, rfl⟩ : ∃ q, fl = q + 1 := ⟨fl - 1, by omega⟩
    obtain ⟨n', e1, e2⟩ := ih fl (x + 1) (vp_updL next x (sheet x)) (by omega) (by omega) (fun y hy => by
      rw [updL_at]
      by_cases c : y = x
      · rw [if_pos c, c]
      · rw [if_neg c]; exact h y (by omega))
    refine ⟨n', ?_, e2⟩
    simp only [fX6_difference_L14, i_lit, nmE, nI_add]
    rw [if_neg (fun q => by rw [nI_leI (by omega) (by omega)] at q; omega), gJ_at (by omega) (by decide), pJ_at (by omega) (by decide)]
    exact e1
theorem oq_difference {page sheet : Nat → Int64} (hP : PR page sheet) (known isP : Int32) (draft : Nat → Int64) (dtop : Nat → Int32) (th next : Nat → Int64) (a1 : Int32) : ∃ (r5 : Int32 × (Nat → Int64) × (Nat → Int64) × (Nat → Int32) × Int32) (r6 : Int32 × (Nat → Int64) × (Nat → Int64) × (Nat → Int64) × Int32), fX5_difference page draft dtop known a1 = some r5 ∧ fX6_difference th sheet next isP a1 = some r6 ∧ r5.1 = r6.1 ∧ ShOk page draft known sheet isP r5.2.1 r5.2.2.1 r5.2.2.2.2 r6.2.2.1 r6.2.2.2.2 := by
  have h10 : ¬ nI 1 = nI 0 := by decide
  rcases i_range a1 1 3 (by decide) (by decide) with h | ⟨i, i1, i3, rfl⟩
  · refine ⟨(-nI 2, page, draft, dtop, known), (-nI 2, th, sheet, next, isP), ?_, ?_, rfl, ShOk.rf⟩
    · simp only [fX5_difference, i_lit]
      by_cases c : a1 < nI 1
      · rw [if_pos c]
      · rw [if_neg c]
        rcases h with h | h
        · exact absurd h c
        · rw [if_neg (fun q => by
            rw [Int32.lt_iff_toInt_lt] at h q
            have e3 : (nI 3).toInt = 3 := by decide
            have e4 : (nI 4).toInt = 4 := by decide
            omega)]
    · simp only [fX6_difference, within_6, bd_go, i_lit]
      rw [if_pos h, if_pos rfl]
  · have hi : I3 i := by unfold I3; omega
    obtain ⟨d1, e1, z1⟩ := copy_2 draft page
    obtain ⟨t1, T, e2, z2, z3⟩ := measure_2 d1 dtop
    have b1 := (z2 1 (by decide) (by decide))
    have b2 := (z2 2 (by decide) (by decide))
    have b3 := (z2 3 (by decide) (by decide))
    have b4 := (z2 4 (by decide) (by decide))
    obtain ⟨g', top', e3, z4, _⟩ := differ_g hi ⟨T, z2, z3.top⟩ (lo := 0) (hh := T 1 + T 2 + T 3 + T 4) (by omega) (by omega) (fun x hx hd => by
      refine z3.top x hx ?_
      unfold dgx at hd
      by_cases c1 : T 1 < xc x 1
      · exact ⟨1, by decide, by decide, c1⟩
      · by_cases c2 : T 2 < xc x 2
        · exact ⟨2, by decide, by decide, c2⟩
        · by_cases c3 : T 3 < xc x 3
          · exact ⟨3, by decide, by decide, c3⟩
          · exact ⟨4, by decide, by decide, by omega⟩)
    obtain ⟨n1, e4, z5⟩ := dif6_L (p1 := nI i) (isP := isP) (th := th) (sheet := sheet) 3024 fu 0 next rfl (by rw [fu_s]; omega) (fun y hy => by omega)
    obtain ⟨th2, n2, e5, z6⟩ := differs_6 hi th n1
    have hN : PR g' n2 := by
      refine PR.of hi (fun u v k l hb => ?_)
      rw [z6 u v k l hb, z4 _ (Ci_lt hi hb), Dc_Ci hi hb]
      refine DD_congr (fun a b ha hb' _ => ?_)
      have hB : Bx i u v a b := ⟨hb.1, hb.2.1, ha, hb'⟩
      rw [z1 _ (Ci_lt hi hB), z5 _ (Cr_lt hi hB)]
      exact hP.at hi hB
    have hdb : fX2_degreeBound t1 = some (nI (T 1 + T 2 + T 3 + T 4)) := by
      simp only [fX2_degreeBound, i_lit, gI_at (by decide : 1 < 5) (by decide : 5 < 2 ^ 31), gI_at (by decide : 2 < 5) (by decide : 5 < 2 ^ 31), gI_at (by decide : 3 < 5) (by decide : 5 < 2 ^ 31), gI_at (by decide : 4 < 5) (by decide : 5 < 2 ^ 31), b1.1, b2.1, b3.1, b4.1, nI_add]
    have c1 : ¬ nI i < nI 1 := fun q => by rw [nI_ltI (by omega) (by omega)] at q; omega
    have c2 : nI i < nI 4 := (nI_ltI (by omega) (by omega)).mpr (by omega)
    have c3 : ¬ (nI i < nI 1 ∨ nI 3 < nI i) := by
      rintro (q | q)
      · exact c1 q
      · rw [nI_ltI (by omega) (by omega)] at q; omega
    rcases take_both hN page sheet isP with ⟨n, pg, sh, t1', t2, t3, t4⟩ | ⟨t1', t2⟩
    · refine ⟨(nI n, pg, g', top', nI 0), (nI n, th2, sh, n2, nI 0), ?_, ?_, rfl, Or.inr (Or.inl ⟨t3, t4, rfl, rfl⟩)⟩
      · simp only [fX5_difference, i_lit, lend_3, e1, e2, bd_go, hdb, e3, t1']
        rw [if_neg c1, if_pos c2]
      · simp only [fX6_difference, within_6, bd_go, i_lit]
        rw [if_neg c3, if_neg h10, e4, e5, bd_some, t2, bd_some]
    · refine ⟨(-nI 5, page, g', top', nI 0), (-nI 5, th2, sheet, n2, isP), ?_, ?_, rfl, ShOk.no⟩
      · simp only [fX5_difference, i_lit, lend_3, e1, e2, bd_go, hdb, e3, t1']
        rw [if_neg c1, if_pos c2]
      · simp only [fX6_difference, within_6, bd_go, i_lit]
        rw [if_neg c3, if_neg h10, e4, e5, bd_some, t2, bd_some]
