/-! ===== words ===== -/
def cs5 (a i : Nat) : Nat := cc_ (a / 24) (a / 6 % 4) (a / 2 % 3) (a % 2) i
def nxc (a i j : Nat) : Nat := if j = i then cs5 a (i + 1) else if j = i + 1 then cs5 a i - 1 else cs5 a j
def nx (a i : Nat) : Nat := 24 * nxc a i 1 + 6 * nxc a i 2 + 2 * nxc a i 3 + nxc a i 4
def lv (a : Nat) : Nat := a / 24 + a / 6 % 4 + a / 2 % 3 + a % 2
def tw (a : Nat) : Nat := ([1, 1, 1, 1, 1, 2, 1, 2, 1, 1, 2, 3, 1, 2, 2, 3, 2, 5, 1, 3, 3, 6, 5, 16, 1, 2, 2, 3, 3, 8, 1, 3, 1, 1, 3, 4, 2, 5, 3, 4, 5, 9, 3, 11, 6, 10, 16, 35, 1, 3, 2, 3, 5, 11, 2, 8, 3, 4, 11, 19, 2, 5, 5, 9, 5, 14, 5, 16, 16, 35, 21, 70, 1, 3, 3, 6, 5, 16, 3, 11, 6, 10, 16, 35, 5, 16, 16, 35, 21, 70, 5, 21, 21, 56, 42, 168, 1, 4, 4, 10, 9, 35, 4, 19, 10, 20, 35, 90, 9, 35, 35, 90, 56, 216, 14, 70, 70, 216, 168, 768] : List Nat).getD a 0
def ds5 (a i : Nat) : Bool := decide (cs5 a (i + 1) < cs5 a i)
def wsm (a : Nat) : Nat → Nat → Nat
  | 0, _ => 0
  | m + 1, i => (if ds5 a i then tw (nx a i) else 0) + wsm a m (i + 1)
def wnd (a : Nat) : Nat → Nat → Bool
  | 0, _ => true
  | m + 1, i => !ds5 a i && wnd a m (i + 1)
theorem tw_fact : ∀ a, a < 120 → tw a = (if wnd a 4 1 then 1 else wsm a 4 1) ∧ (wnd a 4 1 = true ↔ a = 0) := by decide +kernel
theorem nx_f1 : ∀ a, a < 120 → ∀ i, i < 5 → (1 ≤ i ∧ ds5 a i = true) → (nx a i < 120 ∧ lv (nx a i) + 1 = lv a) := by decide +kernel
theorem nx_f2 : ∀ a, a < 120 → ∀ i, i < 5 → ∀ j, j < 6 → (1 ≤ i ∧ 1 ≤ j ∧ ds5 a i = true) → cs5 (nx a i) j = nxc a i j := by decide +kernel
theorem nx_fact (a : Nat) (ha : a < 120) (i : Nat) (h5 : i < 5) (h1 : 1 ≤ i) (hd : ds5 a i = true) : nx a i < 120 ∧ lv (nx a i) + 1 = lv a ∧ ∀ j, j < 6 → 1 ≤ j → cs5 (nx a i) j = nxc a i j :=
  ⟨(nx_f1 a ha i h5 ⟨h1, hd⟩).1, (nx_f1 a ha i h5 ⟨h1, hd⟩).2, fun j x y => nx_f2 a ha i h5 j x ⟨h1, y, hd⟩⟩
theorem lv_le : ∀ a, a < 120 → lv a ≤ 10 := by decide +kernel
theorem cnt_mono {w : Nat → Nat} {i : Nat} (h1 : 1 ≤ i) (h8 : i ≤ 8) (hl : w i < w (i + 1)) : cnt w i ≤ cnt w (i + 1) := by
  have hle : ∀ q a, (∀ k, a ≤ k → k < a + q → cN w i k ≤ cN w (i + 1) k) → sm (cN w i) a q ≤ sm (cN w (i + 1)) a q := by
    intro q
    induction q with
    | zero => intro a _; exact Nat.le_refl _
    | succ q ih =>
      intro a hh
      simp only [sm]
      have := hh a (Nat.le_refl _) (by omega)
      have := ih (a + 1) (fun k x y => hh k (by omega) (by omega))
      omega
  have := hle (9 - (i + 1)) (i + 1 + 1) (fun k x y => by
    unfold cN
    by_cases q : w k < w i
    · rw [if_pos q, if_pos (by omega)]; exact Nat.le_refl _
    · rw [if_neg q]; exact Nat.zero_le _)
  unfold cnt
  rw [show 9 - i = (9 - (i + 1)) + 1 by omega]
  simp only [sm]
  have e : cN w i (i + 1) = 0 := by unfold cN; rw [if_neg (by omega)]
  omega
theorem cd_fall {w : Nat → Nat} {i : Nat} (h1 : 1 ≤ i) (h8 : i ≤ 8) (hl : w (i + 1) < w i) : cnt w i = cnt (sw w i (i + 1)) (i + 1) + 1 ∧ cnt w (i + 1) = cnt (sw w i (i + 1)) i ∧ cnt w (i + 1) < cnt w i := by
  have hv : sw w i (i + 1) i < sw w i (i + 1) (i + 1) := by rw [sw_a, sw_b]; exact hl
  have a := cnt_sw_a h1 h8 hv
  have b := cnt_sw_b h1 h8 hv
  have m := cnt_mono h1 h8 hv
  rw [cnt_congr (fun j _ _ => sw_sw w i (i + 1) j) h1 (by omega)] at a
  rw [cnt_congr (fun j _ _ => sw_sw w i (i + 1) j) (by omega) (by omega)] at b
  exact ⟨a, b, by omega⟩
theorem cd_desc {w : Nat → Nat} (hp : Pm w) {i : Nat} (h1 : 1 ≤ i) (h8 : i ≤ 8) : w (i + 1) < w i ↔ cnt w (i + 1) < cnt w i := by
  constructor
  · intro h; exact (cd_fall h1 h8 h).2.2
  · intro h
    rcases Nat.lt_trichotomy (w (i + 1)) (w i) with q | q | q
    · exact q
    · have := hp (i + 1) i (by omega) (by omega) h1 (by omega) q; omega
    · have := cnt_mono h1 h8 q; omega
def Cd (w : Nat → Nat) (a : Nat) : Prop := ∀ j, 1 ≤ j → j ≤ 5 → cnt w j = cs5 a j
theorem cd_ds {w : Nat → Nat} {a : Nat} (hp : Pm w) (hc : Cd w a) {i : Nat} (h1 : 1 ≤ i) (h4 : i ≤ 4) : w (i + 1) < w i ↔ ds5 a i = true := by
  rw [cd_desc hp h1 (by omega), hc i h1 (by omega), hc (i + 1) (by omega) (by omega)]
  unfold ds5
  rw [decide_eq_true_iff]
theorem cd_nxc {w : Nat → Nat} {a : Nat} (hp : Pm w) (hc : Cd w a) {i : Nat} (h1 : 1 ≤ i) (h4 : i ≤ 4) (hd : ds5 a i = true) : ∀ j, 1 ≤ j → j ≤ 5 → cnt (sw w i (i + 1)) j = nxc a i j := by
  obtain ⟨f1, f2, f3⟩ := cd_fall h1 (by omega) ((cd_ds hp hc h1 h4).mpr hd)
  rw [hc i h1 (by omega)] at f1
  rw [hc (i + 1) (by omega) (by omega)] at f2
  intro j j1 j5
  unfold nxc
  by_cases e1 : j = i
  · rw [if_pos e1, e1, f2]
  · rw [if_neg e1]
    by_cases e2 : j = i + 1
    · rw [if_pos e2, e2, f1]; omega
    · rw [if_neg e2, cnt_sw_o h1 (by omega) j1 (by omega) e1 e2, hc j j1 j5]
theorem cd_nx {w : Nat → Nat} {a : Nat} (ha : a < 120) (hp : Pm w) (hc : Cd w a) {i : Nat} (h1 : 1 ≤ i) (h4 : i ≤ 4) (hd : ds5 a i = true) : Cd (sw w i (i + 1)) (nx a i) := by
  intro j j1 j5
  rw [cd_nxc hp hc h1 h4 hd j j1 j5, (nx_fact a ha i (by omega) h1 hd).2.2 j (by omega) j1]
theorem ways_L {a p : Nat} (self : (Nat → Int32) → Int32 → Option (Int32 × (Nat → Int32))) {w : Nat → Nat} (hp : Pm w) (hc : Cd w a) (hs : ∀ i row, 1 ≤ i → i ≤ 4 → ds5 a i = true → Dg row (sw w i (i + 1)) → ∃ row', self row (nI (p + 1)) = some (nI (tw (nx a i)), row') ∧ Dg row' (sw w i (i + 1))) : ∀ (m fl i acc : Nat) (b : Bool) (row : Nat → Int32), i + m = 5 → 1 ≤ i → m < fl → Dg row w → ∃ row', fX5_waysDown_L15 self (nI p) fl row (nI acc) (fB b) (nI i) = some ((if b && wnd a m i then nI 1 else nI (acc + wsm a m i)), row') ∧ Dg row' w := by
  intro m
  induction m with
  | zero =>
    intro fl i acc b row hi h1 hf h
    obtain ⟨fl, rfl⟩ : ∃ q, fl = q + 1 := ⟨fl - 1, by omega⟩
    refine ⟨row, ?_, h⟩
    simp only [fX5_waysDown_L15, i_lit, wnd, wsm, Bool.and_true, Nat.add_zero]
    rw [if_pos ((nI_leI (by omega) (by omega)).mpr (by omega))]
    cases b with
    | false => rw [if_pos fB_f, if_neg (by decide)]
    | true => rw [if_neg fB_n, if_pos rfl]
  | succ m ih =>
    intro fl i acc b row hi h1 hf h
    obtain ⟨fl, rfl⟩ : ∃ q, fl = q + 1 := ⟨fl - 1, by omega⟩
    have d1 := h i h1 (by omega)
    have d2 := h (i + 1) (by omega) (by omega)
    have hds := cd_ds hp hc h1 (by omega : i ≤ 4)
    simp only [fX5_waysDown_L15, i_lit, nmE, nI_add, digit_at h h1 (by omega : i ≤ 9), digit_at h (by omega : 1 ≤ i + 1) (by omega : i + 1 ≤ 9), bd_some, wnd, wsm]
    rw [if_neg (fun q => by rw [nI_leI (by omega) (by omega)] at q; omega)]
    simp (disch := omega) only [nI_leI]
    by_cases hd : ds5 a i = true
    · have hlt := hds.mpr hd
      obtain ⟨r1, x1, y1⟩ := exch_1 h h1 (by omega : i ≤ 9) (by omega : 1 ≤ i + 1) (by omega : i + 1 ≤ 9)
      obtain ⟨r2, x2, y2⟩ := hs i r1 h1 (by omega) hd y1
      obtain ⟨r3, x3, y3⟩ := exch_1 y2 h1 (by omega : i ≤ 9) (by omega : 1 ≤ i + 1) (by omega : i + 1 ≤ 9)
      have y3' := y3.congr (sw_sw w i (i + 1))
      obtain ⟨row', e1, e2⟩ := ih fl (i + 1) (acc + tw (nx a i)) false r3 (by omega) (by omega) (by omega) y3'
      refine ⟨row', ?_, e2⟩
      rw [if_neg (by omega), x1, bd_some, x2, bd_some]
      simp only [x3, bd_some, nI_add]
      rw [← fB_f, e1]
      simp only [hd, Bool.false_and, Bool.not_true, Bool.and_false, if_true, Nat.add_assoc]
    · have : ¬ w (i + 1) < w i := fun q => hd (hds.mp q)
      have hd' : ds5 a i = false := Bool.eq_false_iff.mpr hd
      obtain ⟨row', e1, e2⟩ := ih fl (i + 1) acc b row (by omega) (by omega) (by omega) h
      refine ⟨row', ?_, e2⟩
      rw [if_pos (by omega), e1]
      simp only [hd', Bool.not_false, Bool.true_and, Bool.false_eq_true, if_false, Nat.zero_add]
theorem ways_5 : ∀ (d p a : Nat) (w : Nat → Nat) (row : Nat → Int32), p + d = 11 → a < 120 → lv a + p ≤ 10 → Rg w → Pm w → Cd w a → Dg row w → ∃ row', fX5_waysDown (d + 1) row (nI p) = some (nI (tw a), row') ∧ Dg row' w := by
  intro d
  induction d with
  | zero => intro p a w row hd ha hl; omega
  | succ d ih =>
    intro p a w row hd ha hl hr hp hc h
    have hs : ∀ i row, 1 ≤ i → i ≤ 4 → ds5 a i = true → Dg row (sw w i (i + 1)) → ∃ row', fX5_waysDown (d + 1) row (nI (p + 1)) = some (nI (tw (nx a i)), row') ∧ Dg row' (sw w i (i + 1)) := by
      intro i row i1 i4 hds hdg
      obtain ⟨n1, n2, n3⟩ := nx_fact a ha i (by omega) i1 hds
      obtain ⟨s1, s2⟩ := sw_pm hr hp i1 (by omega : i ≤ 8)
      exact ih (p + 1) (nx a i) _ row (by omega) n1 (by omega) s1 s2 (cd_nx ha hp hc i1 i4 hds) hdg
    obtain ⟨row', e1, e2⟩ := ways_L (a := a) (p := p) (fX5_waysDown (d + 1)) hp hc hs 4 fu 1 0 true row rfl (by decide) (by rw [fu_s]; omega) h
    refine ⟨row', ?_, e2⟩
    rw [fX5_waysDown]
    simp only [fX5_waysDown_body, i_lit]
    have e1' : fX5_waysDown_L15 (fX5_waysDown (d + 1)) (nI p) fu row (nI 0) (nI 1) (nI 1) = some (if (true && wnd a 4 1) = true then nI 1 else nI (0 + wsm a 4 1), row') := e1
    rw [if_pos ((nI_leI (by omega) (by omega)).mpr (by omega)), e1', (tw_fact a ha).1, Bool.true_and, Nat.zero_add]
    cases wnd a 4 1 with
    | true => rfl
    | false => rfl
theorem laysSmall_6 (row : Nat → Int32) {a : Nat} (ha : a < 120) : ∃ row', fX6_laysSmall row (nI a) = some row' ∧ Dg row' (opm (cs5 a)) := by
  have d1 : a / 6 ≤ a := Nat.div_le_self _ _
  have d2 : a / 2 ≤ a := Nat.div_le_self _ _
  have h5 : ∀ i, 5 ≤ i → i ≤ 9 → cs5 a i = 0 := fun i x y => by
    unfold cs5 cc_
    rw [if_neg (by omega), if_neg (by omega), if_neg (by omega), if_neg (by omega)]
  have hcc : ∀ i, 1 ≤ i → i ≤ 9 → cs5 a i ≤ 9 - i := fun i x y => by
    unfold cs5 cc_
    split
    · omega
    · split
      · omega
      · split
        · omega
        · split <;> omega
  obtain ⟨row', e, d⟩ := laysCode_6 row hcc h5
  refine ⟨row', ?_, d⟩
  simp only [fX6_laysSmall, i_lit]
  simp (disch := omega) only [i_div, i_mod]
  have e' : fX6_laysCode row (nI (a / 24)) (nI (a / 6 % 4)) (nI (a / 2 % 3)) (nI (a % 2)) = some row' := e
  rw [e', bd_some]
theorem cs5_le {a : Nat} (ha : a < 120) : ∀ i, 1 ≤ i → i ≤ 9 → cs5 a i ≤ 9 - i := fun i x y => by
  unfold cs5 cc_
  split
  · omega
  · split
    · omega
    · split
      · omega
      · split <;> omega
theorem smallOf_6 {row : Nat → Int32} {w : Nat → Nat} (h : Dg row w) : fX6_smallOf row = some (nI (24 * cnt w 1 + 6 * cnt w 2 + 2 * cnt w 3 + cnt w 4)) := by
  simp only [fX6_smallOf, i_lit, codeAt_6 h (by decide : 1 ≤ 1) (by decide), codeAt_6 h (by decide : 1 ≤ 2) (by decide), codeAt_6 h (by decide : 1 ≤ 3) (by decide), codeAt_6 h (by decide : 1 ≤ 4) (by decide), bd_some, nI_mul, nI_add]
theorem findWays_L {a : Nat} (ha : a < 120) {W : Nat → Int32} (hW : ∀ x, x < 120 → lv x < lv a → W x = nI (tw x)) : ∀ (m fl i acc : Nat) (row : Nat → Int32), i + m = 5 → 1 ≤ i → m < fl → ∃ row', fX6_findWays_L4 (nI a) fl row W (nI acc) (nI i) = some (row', upd W a (if a = 0 then nI 1 else nI (acc + wsm a m i))) := by
  intro m
  induction m with
  | zero =>
    intro fl i acc row hi h1 hf
    obtain ⟨fl, rfl⟩ : ∃ q, fl = q + 1 := ⟨fl - 1, by omega⟩
    refine ⟨row, ?_⟩
    simp only [fX6_findWays_L4, fX6_findWays_b77, i_lit, wsm, Nat.add_zero]
    rw [if_pos ((nI_leI (by omega) (by omega)).mpr (by omega)), pI_at ha (by decide), pI_at ha (by decide)]
    simp (disch := omega) only [nI_eq]
    by_cases e : a = 0
    · rw [if_pos e, if_pos e]
    · rw [if_neg e, if_neg e]
  | succ m ih =>
    intro fl i acc row hi h1 hf
    obtain ⟨fl, rfl⟩ : ∃ q, fl = q + 1 := ⟨fl - 1, by omega⟩
    obtain ⟨r1, e1, d1⟩ := laysSmall_6 row ha
    have hcc := cs5_le ha
    have hp := (opm_in hcc).2
    have hc : Cd (opm (cs5 a)) a := fun j x y => code_opm hcc j x (by omega)
    generalize opm (cs5 a) = w at d1 hp hc
    have q1 := d1 i h1 (by omega)
    have q2 := d1 (i + 1) (by omega) (by omega)
    have hds := cd_ds hp hc h1 (by omega : i ≤ 4)
    simp only [fX6_findWays_L4, i_lit, nmE, nI_add, e1, bd_some, wsm]
    rw [if_neg (fun q => by rw [nI_leI (by omega) (by omega)] at q; omega), gI_at (by omega) (by decide), gI_at (by omega) (by decide), q1.1, q2.1]
    simp (disch := omega) only [nI_leI]
    cases hd : ds5 a i with
    | false =>
      have : ¬ w (i + 1) < w i := fun q => by rw [hds.mp q] at hd; cases hd
      obtain ⟨row', e2⟩ := ih fl (i + 1) acc r1 (by omega) (by omega) (by omega)
      refine ⟨row', ?_⟩
      rw [if_pos (by omega), e2, if_neg (by decide : ¬ false = true), Nat.zero_add]
    | true =>
      have hlt := hds.mpr hd
      obtain ⟨n1, n2, n3⟩ := nx_fact a ha i (by omega) h1 hd
      obtain ⟨r2, x2, y2⟩ := exch_6 d1 h1 (by omega : i ≤ 9) (by omega : 1 ≤ i + 1) (by omega : i + 1 ≤ 9)
      have hn := cd_nxc hp hc h1 (by omega : i ≤ 4) hd
      have e3 : fX6_smallOf r2 = some (nI (nx a i)) := by
        rw [smallOf_6 y2, hn 1 (by decide) (by decide), hn 2 (by decide) (by decide), hn 3 (by decide) (by decide), hn 4 (by decide) (by decide)]
        rfl
      obtain ⟨row', e2⟩ := ih fl (i + 1) (acc + tw (nx a i)) r2 (by omega) (by omega) (by omega)
      refine ⟨row', ?_⟩
      rw [if_neg (by omega), x2, bd_some, e3, bd_some, gI_at n1 (by decide), hW _ n1 (by omega), nI_add, e2, if_pos rfl, Nat.add_assoc]
theorem findWays_6 {a : Nat} (ha : a < 120) {W : Nat → Int32} (hW : ∀ x, x < 120 → lv x < lv a → W x = nI (tw x)) (row : Nat → Int32) : ∃ row', fX6_findWays row W (nI a) = some (row', upd W a (nI (tw a))) := by
  obtain ⟨row', e⟩ := findWays_L ha hW 4 fu 1 0 row rfl (by decide) (by rw [fu_s]; omega)
  refine ⟨row', ?_⟩
  simp only [fX6_findWays, i_lit]
  rw [e, (tw_fact a ha).1, Nat.zero_add]
  have := (tw_fact a ha).2
  by_cases h0 : a = 0
  · rw [if_pos h0, if_pos (this.mpr h0)]
  · rw [if_neg h0, if_neg (fun q => h0 (this.mp q))]
theorem words_in {p1 : Int32} {one : Nat → Int32} {L : Int32} {n : Nat} (hn : n ≤ 100) (rec : (Nat → Int32) → (Nat → Int32) → (Nat → Int32) → Int32 → Int32 → Option (Int32 × (Nat → Int32) × (Nat → Int32) × (Nat → Int32))) : ∀ (m fl a : Nat) (row W : Nat → Int32), a + m = 120 → m < fl → (∀ x, x < 120 → lv x < n ∨ (lv x = n ∧ x < a) → W x = nI (tw x)) → ∃ row' W', fX6_words_L45 p1 rec fl one row W L (nI n) (nI a) = rec one row' W' L (nI (n + 1)) ∧ ∀ x, x < 120 → lv x < n + 1 → W' x = nI (tw x) := by
  intro m
  induction m with
  | zero =>
    intro fl a row W ha hf h
    obtain ⟨fl, rfl⟩ : ∃ q, fl = q + 1 := ⟨fl - 1, by omega⟩
    refine ⟨row, W, ?_, fun x hx hl => h x hx (by omega)⟩
    simp only [fX6_words_L45, i_lit, nmE, nI_add]
    rw [if_pos ((nI_leI (by omega) (by omega)).mpr (by omega))]
  | succ m ih =>
    intro fl a row W ha hf h
    obtain ⟨fl, rfl⟩ : ∃ q, fl = q + 1 := ⟨fl - 1, by omega⟩
    have d1 : a / 6 ≤ a := Nat.div_le_self _ _
    have d2 : a / 2 ≤ a := Nat.div_le_self _ _
    have hl : a / 24 + a / 6 % 4 + a / 2 % 3 + a % 2 = lv a := rfl
    have hle := lv_le a (by omega)
    simp only [fX6_words_L45, i_lit, nmE, nI_add]
    simp (disch := omega) only [i_div, i_mod, nI_add]
    rw [if_neg (fun q => by rw [nI_leI (by omega) (by omega)] at q; omega), hl]
    by_cases hc : lv a = n
    · obtain ⟨r1, e1⟩ := findWays_6 (by omega : a < 120) (W := W) (fun x hx hlx => h x hx (Or.inl (by omega))) row
      rw [if_pos (by rw [hc]), e1, bd_some]
      refine ih fl (a + 1) r1 (upd W a (nI (tw a))) (by omega) (by omega) (fun x hx hlx => ?_)
      by_cases e : x = a
      · rw [e]; exact upd_s
      · rw [upd_n e]; exact h x hx (by omega)
    · rw [if_neg (by rw [nI_eq (by omega) (by omega)]; exact hc)]
      refine ih fl (a + 1) row W (by omega) (by omega) (fun x hx hlx => h x hx ?_)
      rcases hlx with q | ⟨q1, q2⟩
      · exact Or.inl q
      · exact Or.inr ⟨q1, by
          by_cases e : x = a
          · subst e; exact absurd q1 hc
          · omega⟩
theorem words_out {p1 : Int32} {one : Nat → Int32} {w : Nat → Nat} (h1 : Dg one w) {L : Nat} (hL : L ≤ 81) {a : Nat} (ha : a < 120) (hla : lv a ≤ L) (hc : Cd w a) : ∀ (m fl n : Nat) (row W : Nat → Int32), n + m = L + 1 → m < fl → (∀ x, x < 120 → lv x < n → W x = nI (tw x)) → ∃ row' W', fX6_words_L37 p1 fl one row W (nI L) (nI n) = some (nI (tw a), one, row', W') := by
  intro m
  induction m with
  | zero =>
    intro fl n row W hn hf h
    obtain ⟨fl, rfl⟩ : ∃ q, fl = q + 1 := ⟨fl - 1, by omega⟩
    have e : 24 * cnt w 1 + 6 * cnt w 2 + 2 * cnt w 3 + cnt w 4 = a := by
      rw [hc 1 (by decide) (by decide), hc 2 (by decide) (by decide), hc 3 (by decide) (by decide), hc 4 (by decide) (by decide)]
      show 24 * (a / 24) + 6 * (a / 6 % 4) + 2 * (a / 2 % 3) + a % 2 = a
      omega
    refine ⟨row, W, ?_⟩
    simp only [fX6_words_L37, smallOf_6 h1, bd_some, e]
    rw [if_pos ((nI_ltI (by omega) (by omega)).mpr (by omega)), gI_at ha (by decide), h a ha (by omega)]
  | succ m ih =>
    intro fl n row W hn hf h
    obtain ⟨fl, rfl⟩ : ∃ q, fl = q + 1 := ⟨fl - 1, by omega⟩
    obtain ⟨r1, W1, e1, h1'⟩ := words_in (p1 := p1) (one := one) (L := nI L) (by omega : n ≤ 100) (fX6_words_L37 p1 fl) 120 fu 0 row W rfl (by rw [fu_s]; omega) (fun x hx hlx => h x hx (by omega))
    obtain ⟨r2, W2, e2⟩ := ih fl (n + 1) r1 W1 (by omega) (by omega) h1'
    refine ⟨r2, W2, ?_⟩
    simp only [fX6_words_L37, i_lit]
    rw [if_neg (fun q => by rw [nI_ltI (by omega) (by omega)] at q; omega), e1]
    exact e2
theorem sm_split (f : Nat → Nat) : ∀ (n m a : Nat), sm f a (n + m) = sm f a n + sm f (a + n) m := by
  intro n
  induction n with
  | zero => intro m a; simp [sm]
  | succ n ih =>
    intro m a
    rw [show n + 1 + m = (n + m) + 1 by omega]
    simp only [sm]
    rw [ih, show a + 1 + n = a + (n + 1) by omega]
    omega
theorem sml_c {w : Nat → Nat} (hr : Rg w) (hp : Pm w) (hs : pcn w 9 ≤ 5) : ∃ a, a < 120 ∧ Cd w a ∧ lv a ≤ ln w := by
  have h6 : ∀ j, 6 ≤ j → j ≤ 9 → w j = j := fun j x y => pcn_id w 9 j (by omega) y
  have h5 : ∀ i, 1 ≤ i → i ≤ 5 → w i ≤ 5 := by
    intro i x y
    have := hr i x (by omega)
    rcases Nat.lt_or_ge 5 (w i) with q | q
    · have e := h6 (w i) (by omega) this.2
      have := hp (w i) i (by omega) this.2 x (by omega) e
      omega
    · exact q
  have hb : ∀ i, 1 ≤ i → i ≤ 5 → cnt w i ≤ 5 - i := by
    intro i x y
    unfold cnt
    rw [show 9 - i = (5 - i) + 4 by omega, sm_split]
    have z : sm (cN w i) (i + 1 + (5 - i)) 4 = 0 := sm_zero _ _ (fun k a b => by
      unfold cN
      have := h5 i x y
      rw [h6 k (by omega) (by omega), if_neg (by omega)])
    rw [z]
    have := sm_le (f := cN w i) (b := 1) (5 - i) (i + 1) (fun k _ _ => by unfold cN; split <;> omega)
    omega
  have b1 := hb 1 (by decide) (by decide)
  have b2 := hb 2 (by decide) (by decide)
  have b3 := hb 3 (by decide) (by decide)
  have b4 := hb 4 (by decide) (by decide)
  have b5 := hb 5 (by decide) (by decide)
  refine ⟨24 * cnt w 1 + 6 * cnt w 2 + 2 * cnt w 3 + cnt w 4, by omega, ?_, ?_⟩
  · intro j x y
    rcases (show j = 1 ∨ j = 2 ∨ j = 3 ∨ j = 4 ∨ j = 5 by omega) with rfl | rfl | rfl | rfl | rfl
    · show cnt w 1 = (24 * cnt w 1 + 6 * cnt w 2 + 2 * cnt w 3 + cnt w 4) / 24
      omega
    · show cnt w 2 = (24 * cnt w 1 + 6 * cnt w 2 + 2 * cnt w 3 + cnt w 4) / 6 % 4
      omega
    · show cnt w 3 = (24 * cnt w 1 + 6 * cnt w 2 + 2 * cnt w 3 + cnt w 4) / 2 % 3
      omega
    · show cnt w 4 = (24 * cnt w 1 + 6 * cnt w 2 + 2 * cnt w 3 + cnt w 4) % 2
      omega
    · show cnt w 5 = 0
      omega
  · clear hs hr hp h6 h5 hb
    have z1 : (24 * cnt w 1 + 6 * cnt w 2 + 2 * cnt w 3 + cnt w 4) / 24 = cnt w 1 := by omega
    have z2 : (24 * cnt w 1 + 6 * cnt w 2 + 2 * cnt w 3 + cnt w 4) / 6 % 4 = cnt w 2 := by omega
    have z3 : (24 * cnt w 1 + 6 * cnt w 2 + 2 * cnt w 3 + cnt w 4) / 2 % 3 = cnt w 3 := by omega
    have z4 : (24 * cnt w 1 + 6 * cnt w 2 + 2 * cnt w 3 + cnt w 4) % 2 = cnt w 4 := by omega
    unfold lv ln
    have : sm (cnt w) 1 9 = cnt w 1 + (cnt w 2 + (cnt w 3 + (cnt w 4 + sm (cnt w) 5 5))) := rfl
    rw [z1, z2, z3, z4, this]
    omega
theorem oq_words (k1 k2 o2 w2 : Nat → Int32) (a1 : Int32) : ∃ (r5 : Int32 × (Nat → Int32)) (r6 : Int32 × (Nat → Int32) × (Nat → Int32) × (Nat → Int32)), fX5_words k1 a1 = some r5 ∧ fX6_words k2 o2 w2 a1 = some r6 ∧ r5.1 = r6.1 := by
  obtain ⟨b, q1, q2, e1, e2, h⟩ := read_lays k1 k2 a1
  simp only [fX5_words, fX6_words, e1, e2, bd_some, i_lit]
  cases b with
  | false => exact ⟨(-nI 2, q1), (-nI 2, q2, o2, w2), by rw [if_pos fB_f], by rw [if_pos fB_f], rfl⟩
  | true =>
    obtain ⟨w, d1, d2, hp⟩ := h rfl
    rw [if_neg fB_n, if_neg fB_n, isSmall_1 d1, isSmall_6 d2, bd_some, bd_some]
    by_cases hs : pcn w 9 ≤ 5
    · obtain ⟨a, ha, hc, hl⟩ := sml_c d1.rg hp hs
      have hlv := lv_le a ha
      obtain ⟨r1, x1, y1⟩ := ways_5 11 0 a w q1 rfl ha (by omega) d1.rg hp hc d1
      have hln := ln_le w
      obtain ⟨r2, W2, x2⟩ := words_out (p1 := a1) d2 hln ha hl hc (ln w + 1) fu 0 o2 w2 (by omega) (by rw [fu_s]; omega) (fun x _ q => by omega)
      rw [decide_eq_true hs, if_neg fB_n, if_neg fB_n, lengthOf_6 d2, bd_some, x1, bd_some]
      exact ⟨_, _, rfl, x2, rfl⟩
    · rw [decide_eq_false hs, if_pos fB_f, if_pos fB_f]
      exact ⟨(-nI 3, q1), (-nI 3, q2, o2, w2), rfl, rfl, rfl⟩
