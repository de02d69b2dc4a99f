/-! ===== fit ones; cells of both sorts; how many; number, terms, sheet ===== -/
theorem ofc_congr {c c' : Nat → Nat} (h : ∀ i, 1 ≤ i → i ≤ 9 → c i = c' i) : ∀ (k m i : Nat), i + k = 10 → 1 ≤ i → ∀ j, ofc c k m i j = ofc c' k m i j := by
  intro k
  induction k with
  | zero => intro m i _ _ j; rfl
  | succ k ih =>
    intro m i hi h1 j
    simp only [ofc]
    rw [h i h1 (by omega), ih _ (i + 1) (by omega) (by omega)]
theorem fit_cases (k1 k2 : Nat → Int32) (a1 : Int32) : ∃ q1 q2 : Nat → Int32, (fX5_fitCell k1 a1 = some (-nI 2, q1) ∧ fX6_lays k2 a1 = some (nI 0, q2)) ∨ (fX5_fitCell k1 a1 = some (-nI 3, q1) ∧ fX6_lays k2 a1 = some (nI 1, q2) ∧ fX6_isFit q2 = some (nI 0)) ∨ (∃ (x : Nat) (w : Nat → Nat), x < 3024 ∧ fX5_fitCell k1 a1 = some (nI x, q1) ∧ fX6_lays k2 a1 = some (nI 1, q2) ∧ fX6_isFit q2 = some (nI 1) ∧ Dg q2 w ∧ (∀ j, 1 ≤ j → j ≤ 4 → cnt w j = xc x j) ∧ ∀ j, 1 ≤ j → j ≤ 9 → opm (xc x) j = w j) := by
  obtain ⟨b, q1, q2, e1, e2, h⟩ := read_lays k1 k2 a1
  refine ⟨q1, q2, ?_⟩
  cases b with
  | false =>
    refine Or.inl ⟨?_, e2⟩
    simp only [fX5_fitCell, e1, bd_some, i_lit]
    rw [if_pos fB_f]
  | true =>
    obtain ⟨w, d1, d2, hp⟩ := h rfl
    refine Or.inr ?_
    by_cases hf : dlast w ≤ 4
    · refine Or.inr ⟨ic (cnt w 1) (cnt w 2) (cnt w 3) (cnt w 4), w, ?_⟩
      have c1 := cnt_le w 1
      have c2 := cnt_le w 2
      have c3 := cnt_le w 3
      have c4 := cnt_le w 4
      obtain ⟨x1, x2, x3, x4⟩ := xc_ic (by omega : cnt w 1 ≤ 8) (by omega : cnt w 2 ≤ 7) (by omega : cnt w 3 ≤ 6) (by omega : cnt w 4 ≤ 5)
      have hx : ∀ j, 1 ≤ j → j ≤ 9 → cnt w j = xc (ic (cnt w 1) (cnt w 2) (cnt w 3) (cnt w 4)) j := by
        intro j j1 j9
        by_cases h5 : 5 ≤ j
        · rw [fit_cnt hf h5 j9, xc_5 h5]
        · rcases (show j = 1 ∨ j = 2 ∨ j = 3 ∨ j = 4 by omega) with rfl | rfl | rfl | rfl
          · exact x1.symm
          · exact x2.symm
          · exact x3.symm
          · exact x4.symm
      refine ⟨ic_lt (by omega) (by omega) (by omega) (by omega), ?_, e2, ?_, d2, fun j j1 j4 => hx j j1 (by omega), fun j j1 j9 => ?_⟩
      · simp only [fX5_fitCell, e1, bd_some, i_lit, isFit_1 d1, fX1_codeCell, codeAt_1 d1 (by decide : 1 ≤ 1) (by decide), codeAt_1 d1 (by decide : 1 ≤ 2) (by decide), codeAt_1 d1 (by decide : 1 ≤ 3) (by decide), codeAt_1 d1 (by decide : 1 ≤ 4) (by decide), cellOf_in (by omega : cnt w 1 ≤ 8) (by omega : cnt w 2 ≤ 7) (by omega : cnt w 3 ≤ 6) (by omega : cnt w 4 ≤ 5)]
        rw [if_neg fB_n, decide_eq_true hf, if_neg fB_n]
      · rw [isFit_6 d2, decide_eq_true hf]; rfl
      · rw [← opm_code d1.rg hp j j1 j9]
        exact (ofc_congr hx 9 0 1 rfl (by decide) j).symm
    · refine Or.inl ⟨?_, e2, ?_⟩
      · simp only [fX5_fitCell, e1, bd_some, i_lit, isFit_1 d1]
        rw [if_neg fB_n, decide_eq_false hf, if_pos fB_f]
      · rw [isFit_6 d2, decide_eq_false hf]; rfl
def sg (x : Nat) : Nat := ir (xc x 1) (xc x 2) (xc x 3) (xc x 4)
theorem xc4_le {x : Nat} (hx : x < 3024) : xc x 1 ≤ 8 ∧ xc x 2 ≤ 7 ∧ xc x 3 ≤ 6 ∧ xc x 4 ≤ 5 := ⟨xc_le hx (by decide) (by decide), xc_le hx (by decide) (by decide), xc_le hx (by decide) (by decide), xc_le hx (by decide) (by decide)⟩
theorem sg_lt {x : Nat} (hx : x < 3024) : sg x < 3024 := by
  obtain ⟨a, b, c, d⟩ := xc4_le hx
  exact ir_lt a b c d
theorem pr_sg {p r : Nat → Int64} (h : PR p r) {x : Nat} (hx : x < 3024) : p x = r (sg x) := by
  obtain ⟨a, b, c, d⟩ := xc4_le hx
  have := h _ _ _ _ a b c d
  rw [ic_xc] at this
  exact this
theorem pr_of_sg {p r : Nat → Int64} (h : ∀ x, x < 3024 → p x = r (sg x)) : PR p r := by
  intro a b c d ha hb hc hd
  have := h _ (ic_lt ha hb hc hd)
  obtain ⟨x1, x2, x3, x4⟩ := xc_ic ha hb hc hd
  unfold sg at this
  rw [x1, x2, x3, x4] at this
  exact this
theorem sg_inj {x y : Nat} (hx : x < 3024) (hy : y < 3024) (e : sg x = sg y) : x = y := by
  obtain ⟨a, b, c, d⟩ := xc4_le hx
  obtain ⟨a', b', c', d'⟩ := xc4_le hy
  have h1 := xr_ir a b c d
  have h2 := xr_ir a' b' c' d'
  unfold sg at e
  rw [e] at h1
  rw [← ic_xc x, ← ic_xc y, h1.1.symm.trans h2.1, h1.2.1.symm.trans h2.2.1, h1.2.2.1.symm.trans h2.2.2.1, h1.2.2.2.symm.trans h2.2.2.2]
theorem sg_onto {y : Nat} (hy : y < 3024) : ∃ x, x < 3024 ∧ sg x = y ∧ ∀ j, 1 ≤ j → j ≤ 4 → xc x j = xr y j := by
  obtain ⟨a, b, c, d⟩ := xr_le hy
  obtain ⟨x1, x2, x3, x4⟩ := xc_ic a b c d
  refine ⟨ic (xr y 1) (xr y 2) (xr y 3) (xr y 4), ic_lt a b c d, ?_, fun j j1 j4 => ?_⟩
  · unfold sg
    rw [x1, x2, x3, x4, ir_xr]
  · rcases (show j = 1 ∨ j = 2 ∨ j = 3 ∨ j = 4 by omega) with rfl | rfl | rfl | rfl
    · exact x1
    · exact x2
    · exact x3
    · exact x4
theorem xr_sg {x : Nat} (hx : x < 3024) {j : Nat} (h1 : 1 ≤ j) (h4 : j ≤ 4) : xr (sg x) j = xc x j := by
  obtain ⟨y, hy, e, h⟩ := sg_onto (sg_lt hx)
  rw [← h j h1 h4, sg_inj hy hx e]
theorem sJ_re (h : Nat → Int64) : sJ h 0 3024 = sJ (fun x => h (sg x)) 0 3024 := by
  rw [sJ_enum (N := 3024) sg (fun _ => true) 3024 h (fun j hj _ => sg_lt hj) (fun j k hj hk _ _ e => sg_inj hj hk e) (fun x hx hne => by
    obtain ⟨y, hy, e, _⟩ := sg_onto hx
    exact absurd e.symm (hne y hy rfl))]
  exact sJ_congr _ _ (fun k _ _ => if_pos rfl)
theorem sm_pick {h : Nat → Nat} {x0 : Nat} : ∀ (n a : Nat), a ≤ x0 → x0 < a + n → sm h a n = h x0 + sm (fun x => if x = x0 then 0 else h x) a n := by
  intro n
  induction n with
  | zero => intro a h1 h2; omega
  | succ n ih =>
    intro a h1 h2
    simp only [sm]
    by_cases e : a = x0
    · subst e
      rw [if_pos rfl, sm_congr (f := fun x => if x = a then 0 else h x) (g := h) n (a + 1) (fun k x y => if_neg (by omega))]
      omega
    · rw [if_neg e, ih (a + 1) (by omega) (by omega)]
      omega
theorem sm_enum {N : Nat} (e : Nat → Nat) : ∀ (n : Nat) (h : Nat → Nat), (∀ j, j < n → e j < N) → (∀ j k, j < n → k < n → e j = e k → j = k) → (∀ x, x < N → (∀ j, j < n → x ≠ e j) → h x = 0) → sm h 0 N = sm (fun j => h (e j)) 0 n := by
  intro n
  induction n with
  | zero => intro h h1 h2 h3; exact sm_zero _ _ (fun k _ b => h3 k (by omega) (fun j hj => by omega))
  | succ n ih =>
    intro h h1 h2 h3
    have hn := h1 n (by omega)
    rw [sm_last, sm_pick (x0 := e n) N 0 (Nat.zero_le _) (by omega), ih (fun x => if x = e n then 0 else h x) (fun j hj => h1 j (by omega)) (fun j k hj hk => h2 j k (by omega) (by omega)) (fun x hx hne => by
      show (if x = e n then 0 else h x) = 0
      by_cases q : x = e n
      · rw [if_pos q]
      · rw [if_neg q]
        exact h3 x hx (fun j hj => by
          by_cases q2 : j = n
          · rw [q2]; exact q
          · exact hne j (by omega)))]
    rw [Nat.zero_add, sm_congr (f := fun j => (fun x => if x = e n then 0 else h x) (e j)) (g := fun j => h (e j)) n 0 (fun k a b => if_neg (fun q => by have := h2 k n (by omega) (by omega) q; omega))]
    omega
theorem sm_re (h : Nat → Nat) : sm h 0 3024 = sm (fun x => h (sg x)) 0 3024 := sm_enum sg 3024 h (fun j hj => sg_lt hj) (fun j k hj hk e => sg_inj hj hk e) (fun x hx hne => by
  obtain ⟨y, hy, e, _⟩ := sg_onto hx
  exact absurd e.symm (hne y hy))
def nz (p : Nat → Int64) (x : Nat) : Nat := if p x = 0 then 0 else 1
theorem nz_PR {p r : Nat → Int64} (h : PR p r) : sm (nz p) 0 3024 = sm (nz r) 0 3024 := by
  rw [sm_re (nz r)]
  exact sm_congr _ _ (fun x _ hx => by show nz p x = nz r (sg x); unfold nz; rw [pr_sg h (by omega)])
theorem nz_congr {p q : Nat → Int64} (h : ∀ x, x < 3024 → p x = q x) : sm (nz p) 0 3024 = sm (nz q) 0 3024 := sm_congr _ _ (fun x _ hx => by unfold nz; rw [h x (by omega)])
theorem filled_L {g : Nat → Int64} : ∀ (n fl x c : Nat), x + n = 3024 → n < fl → fX2_filled_L4 g fl (nI c) (nI x) = some (nI (c + sm (nz g) x n)) := by
  intro n
  induction n with
  | zero =>
    intro fl x c hx hf
    obtain ⟨fl, rfl⟩ : ∃ q, fl = q + 1 := ⟨fl - 1, by omega⟩
    simp only [fX2_filled_L4, i_lit]
    rw [if_pos ((nI_leI (by omega) (by omega)).mpr (by omega))]
    rfl
  | succ n ih =>
    intro fl x c hx hf
    obtain ⟨fl, rfl⟩ : ∃ q, fl = q + 1 := ⟨fl - 1, by omega⟩
    simp only [fX2_filled_L4, i_lit, nmE, nI_add, sm]
    rw [if_neg (fun q => by rw [nI_leI (by omega) (by omega)] at q; omega), gJ_at (by omega) (by decide)]
    simp only [lgz]
    by_cases h : g x = 0
    · rw [if_pos h, ih fl (x + 1) c (by omega) (by omega), show nz g x = 0 from if_pos h, Nat.zero_add]
    · rw [if_neg h, ih fl (x + 1) (c + 1) (by omega) (by omega), show nz g x = 1 from if_neg h, Nat.add_assoc]
theorem filled_2 (g : Nat → Int64) : fX2_filled g = some (nI (sm (nz g) 0 3024)) := by
  have := filled_L (g := g) 3024 fu 0 0 rfl (by rw [fu_s]; omega)
  rw [Nat.zero_add] at this
  simp only [fX2_filled, i_lit]
  exact this
theorem terms_L {g : Nat → Int64} : ∀ (n fl x c : Nat), x + n = 3024 → n < fl → fX6_termsOf_L4 g fl (nI c) (nI x) = some (nI (c + sm (nz g) x n)) := by
  intro n
  induction n with
  | zero =>
    intro fl x c hx hf
    obtain ⟨fl, rfl⟩ : ∃ q, fl = q + 1 := ⟨fl - 1, by omega⟩
    simp only [fX6_termsOf_L4, i_lit]
    rw [if_pos ((nI_leI (by omega) (by omega)).mpr (by omega))]
    rfl
  | succ n ih =>
    intro fl x c hx hf
    obtain ⟨fl, rfl⟩ : ∃ q, fl = q + 1 := ⟨fl - 1, by omega⟩
    simp only [fX6_termsOf_L4, i_lit, nmE, nI_add, sm]
    rw [if_neg (fun q => by rw [nI_leI (by omega) (by omega)] at q; omega), gJ_at (by omega) (by decide)]
    simp only [lgz]
    by_cases h : g x = 0
    · rw [if_pos h, Nat.add_zero, ih fl (x + 1) c (by omega) (by omega), show nz g x = 0 from if_pos h, Nat.zero_add]
    · rw [if_neg h, ih fl (x + 1) (c + 1) (by omega) (by omega), show nz g x = 1 from if_neg h, Nat.add_assoc]
theorem termsOf_6 (g : Nat → Int64) : fX6_termsOf g = some (nI (sm (nz g) 0 3024)) := by
  have := terms_L (g := g) 3024 fu 0 0 rfl (by rw [fu_s]; omega)
  rw [Nat.zero_add] at this
  simp only [fX6_termsOf, i_lit]
  exact this
theorem PR.congr {p q r : Nat → Int64} (h : PR p r) (e : ∀ x, x < 3024 → q x = p x) : PR q r := fun a b c d ha hb hc hd => by rw [e _ (ic_lt ha hb hc hd)]; exact h a b c d ha hb hc hd
theorem isCell_out (x y z u : Int32) (h : (x < nI 0 ∨ nI 8 < x) ∨ (y < nI 0 ∨ nI 7 < y) ∨ (z < nI 0 ∨ nI 6 < z) ∨ (u < nI 0 ∨ nI 5 < u)) : fX6_isCell x y z u = some (nI 0) := by
  simp only [fX6_isCell, within_6, bd_some, i_lit]
  have h10 : ¬ nI 1 = nI 0 := by decide
  by_cases h1 : x < nI 0 ∨ nI 8 < x
  · rw [if_pos h1, if_pos rfl]
  · rw [if_neg h1, if_neg h10]
    by_cases h2 : y < nI 0 ∨ nI 7 < y
    · rw [if_pos h2, if_pos rfl]
    · rw [if_neg h2, if_neg h10]
      by_cases h3 : z < nI 0 ∨ nI 6 < z
      · rw [if_pos h3, if_pos rfl]
      · rw [if_neg h3, if_neg h10]
        have h4 : u < nI 0 ∨ nI 5 < u := by
          rcases h with h | h | h | h
          · exact absurd h h1
          · exact absurd h h2
          · exact absurd h h3
          · exact h
        rw [if_pos h4, if_pos rfl]
theorem isCell_in {a b c d : Nat} (ha : a ≤ 8) (hb : b ≤ 7) (hc : c ≤ 6) (hd : d ≤ 5) : fX6_isCell (nI a) (nI b) (nI c) (nI d) = some (nI 1) := by
  have h10 : ¬ nI 1 = nI 0 := by decide
  simp only [fX6_isCell, within_6, bd_some, i_lit]
  simp (disch := omega) only [nI_ltI]
  rw [if_neg (by omega : ¬ (a < 0 ∨ 8 < a)), if_neg h10, if_neg (by omega : ¬ (b < 0 ∨ 7 < b)), if_neg h10, if_neg (by omega : ¬ (c < 0 ∨ 6 < c)), if_neg h10, if_neg (by omega : ¬ (d < 0 ∨ 5 < d)), if_neg h10]
theorem at_m1 (g : Nat → Int64) : fX2_at g (-nI 1) = some 0 := by
  simp only [fX2_at, i_lit]
  rw [if_pos (by decide : -nI 1 < nI 0)]
theorem at_n {g : Nat → Int64} {x : Nat} (hx : x < 3024) : fX2_at g (nI x) = some (g x) := by
  have := at_2 (q := g) (c := true) (y := x) (fun _ => hx)
  rw [if_pos rfl, if_pos rfl] at this
  exact this
/-- what a cell of exponents gives, of both -/
theorem cell_get {p r : Nat → Int64} (h : PR p r) (x y z u : Int32) : ∃ v, bd (fX5_cellOf x y z u) (fun c => fX2_at p c) = some v ∧ (fX6_isCell x y z u = some (nI 0) ∧ v = 0 ∨ fX6_isCell x y z u = some (nI 1) ∧ ∃ k, k < 3024 ∧ fX6_cellOf x y z u = some (nI k) ∧ v = r k) := by
  rcases four x y z u with h4 | ⟨a, b, c, d, ha, hb, hc, hd, rfl, rfl, rfl, rfl⟩
  · exact ⟨0, by rw [cellOf_out _ _ _ _ h4, bd_some, at_m1], Or.inl ⟨isCell_out _ _ _ _ h4, rfl⟩⟩
  · exact ⟨p (ic a b c d), by rw [cellOf_in ha hb hc hd, bd_some, at_n (ic_lt ha hb hc hd)], Or.inr ⟨isCell_in ha hb hc hd, ir a b c d, ir_lt ha hb hc hd, cellOf_6 _ _ _ _, h a b c d ha hb hc hd⟩⟩
theorem oq_sheet {p r : Nat → Int64} (h : PR p r) (a1 a2 a3 a4 : Int32) : ∃ v, fX5_sheet p a1 a2 a3 a4 = some v ∧ fX6_sheet r a1 a2 a3 a4 = some v := by
  simp only [fX5_sheet, fX6_sheet, anyNeg_5, bd_some, i_lit]
  by_cases hn : a1 < nI 0 ∨ a2 < nI 0 ∨ a3 < nI 0 ∨ a4 < nI 0
  · rw [if_pos hn, if_neg (by decide : ¬ nI 1 = nI 0)]
    refine ⟨_, rfl, ?_⟩
    by_cases h1 : a1 < nI 0
    · rw [if_pos h1]
    · rw [if_neg h1]
      by_cases h2 : a2 < nI 0
      · rw [if_pos h2]
      · rw [if_neg h2]
        by_cases h3 : a3 < nI 0
        · rw [if_pos h3]
        · rw [if_neg h3]
          have h4 : a4 < nI 0 := by
            rcases hn with q | q | q | q
            · exact absurd q h1
            · exact absurd q h2
            · exact absurd q h3
            · exact q
          rw [if_neg (i_nle h4)]
  · rw [if_neg hn, if_pos rfl]
    obtain ⟨v, e1, e2⟩ := cell_get h a1 a2 a3 a4
    refine ⟨v, ?_, ?_⟩
    · rcases four a1 a2 a3 a4 with h4 | ⟨a, b, c, d, ha, hb, hc, hd, rfl, rfl, rfl, rfl⟩
      · rw [cellOf_out _ _ _ _ h4, bd_some] at e1 ⊢
        rw [e1, bd_some]
      · rw [cellOf_in ha hb hc hd, bd_some] at e1 ⊢
        rw [e1, bd_some]
    · rw [if_neg (fun q => hn (Or.inl q)), if_neg (fun q => hn (Or.inr (Or.inl q))), if_neg (fun q => hn (Or.inr (Or.inr (Or.inl q)))), if_pos (by
        rcases i_m1 a4 with q | q | ⟨k, hk, q⟩
        · exfalso; apply hn; right; right; right
          rw [Int32.le_iff_toInt_le] at q
          rw [Int32.lt_iff_toInt_lt]
          have e1 : (-nI 1).toInt = -1 := by decide
          have e2 : (nI 0).toInt = 0 := by decide
          omega
        · exfalso; apply hn; right; right; right; rw [q]; decide
        · rw [q, nI_leI (by decide) hk]; exact Nat.zero_le _)]
      rcases e2 with ⟨q1, q2⟩ | ⟨q1, k, hk, q2, q3⟩
      · rw [q1, bd_some, if_pos rfl, q2]
      · rw [q1, bd_some, if_neg (by decide : ¬ nI 1 = nI 0), q2, bd_some, gJ_at hk (by decide), q3]
theorem nneg_of {a : Int32} (h : ¬ a < nI 0) : nI 0 ≤ a := by
  rw [Int32.lt_iff_toInt_lt] at h
  rw [Int32.le_iff_toInt_le]
  omega
