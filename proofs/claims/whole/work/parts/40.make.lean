/-! ===== the programs that make S ===== -/
def CodeOk (code : Nat → Int32) (c : Nat → Nat) : Prop := ∀ j, 1 ≤ j → j ≤ 4 → code j = nI (c j)
theorem rise_L {code : Nat → Int32} {c : Nat → Nat} (h : CodeOk code c) (hc : CdB c) : ∀ fl, 4 ≤ fl → fX4_firstRise_L2 code fl (nI 1) = some (nI (fr c)) := by
  intro fl hf
  obtain ⟨fl, rfl⟩ : ∃ q, fl = q + 1 + 1 + 1 + 1 := ⟨fl - 4, by omega⟩
  have c1 := hc 1 (by decide) (by decide)
  have c2 := hc 2 (by decide) (by decide)
  have c3 := hc 3 (by decide) (by decide)
  have c4 := hc 4 (by decide) (by decide)
  have st : ∀ (f i : Nat), 1 ≤ i → i ≤ 3 → fX4_firstRise_L2 code (f + 1) (nI i) = if c i < c (i + 1) then some (nI i) else fX4_firstRise_L2 code f (nI (i + 1)) := by
    intro f i i1 i3
    have a := hc i i1 (by omega)
    have b := hc (i + 1) (by omega) (by omega)
    simp only [fX4_firstRise_L2, i_lit, nmE, nI_add]
    rw [if_neg (fun q => by rw [nI_leI (by omega) (by omega)] at q; omega), gI_at (by omega) (by decide), gI_at (by omega) (by decide), h i i1 (by omega), h (i + 1) (by omega) (by omega)]
    by_cases hl : c i < c (i + 1)
    · rw [if_neg (fun q => by rw [nI_leI (by omega) (by omega)] at q; omega), if_pos hl]
    · rw [if_pos ((nI_leI (by omega) (by omega)).mpr (by omega)), if_neg hl]
  rw [st _ 1 (by decide) (by decide), st _ (1 + 1) (by decide) (by decide), st _ (1 + 1 + 1) (by decide) (by decide)]
  unfold fr
  by_cases h1 : c 1 < c 2
  · rw [if_pos h1, if_pos h1]
  · rw [if_neg h1, if_neg h1]
    by_cases h2 : c 2 < c 3
    · rw [if_pos h2, if_pos h2]
    · rw [if_neg h2, if_neg h2]
      by_cases h3 : c 3 < c 4
      · rw [if_pos h3, if_pos h3]
      · rw [if_neg h3, if_neg h3]
        simp only [fX4_firstRise_L2, i_lit]
        rw [if_pos (by decide : nI 4 ≤ nI (1 + 1 + 1 + 1))]
theorem rise_4 {code : Nat → Int32} {c : Nat → Nat} (h : CodeOk code c) (hc : CdB c) : fX4_firstRise code = some (nI (fr c)) := by
  simp only [fX4_firstRise, i_lit]
  exact rise_L h hc fu (by rw [fu_s]; omega)
theorem exch_4 {code : Nat → Int32} {c : Nat → Nat} (h : CodeOk code c) {i : Nat} (hi : I3 i) : ∃ code', fX4_exchangeAt code (nI i) = some code' ∧ CodeOk code' (exc c i) := by
  have i1 := hi.ge
  have i3 := hi.le
  refine ⟨upd (upd code i (nI (c (i + 1) + 1))) (i + 1) (nI (c i)), ?_, ?_⟩
  · simp only [fX4_exchangeAt, i_lit, nmE, nI_add]
    rw [if_neg (fun q => by rw [nI_ltI (by omega) (by omega)] at q; omega), if_pos ((nI_ltI (by omega) (by omega)).mpr (by omega)), gI_at (by omega) (by decide), gI_at (by omega) (by decide), pI_at (by omega) (by decide), pI_at (by omega) (by decide), h i i1 (by omega), h (i + 1) (by omega) (by omega), nI_add]
  · intro j j1 j4
    unfold exc
    by_cases e1 : j = i + 1
    · rw [e1, upd_s, if_neg (by omega), if_pos rfl]
    · rw [upd_n e1]
      by_cases e2 : j = i
      · rw [e2, upd_s, if_pos rfl]
      · rw [upd_n e2, if_neg e2, if_neg e1]; exact h j j1 j4
theorem climb_L {c : Nat → Nat} (hc : CdB c) {n : Nat} (hn : n ≤ 6) (h0 : fr (cq c n) = 0) (hk : ∀ k, k < n → fr (cq c k) ≠ 0) : ∀ (m fl k : Nat) (code way : Nat → Int32), k + m = n → m < fl → CodeOk code (cq c k) → (∀ t, t < k → way t = nI (fr (cq c t))) → ∃ code' way', fX4_climb_L7 fl code way (nI k) (nI (fr (cq c k))) = some (nI n, code', way') ∧ CodeOk code' (cq c n) ∧ ∀ t, t < n → way' t = nI (fr (cq c t)) := by
  intro m
  induction m with
  | zero =>
    intro fl k code way hkm hf h hw
    obtain ⟨fl, rfl⟩ : ∃ q, fl = q + 1 := ⟨fl - 1, by omega⟩
    have e : k = n := by omega
    subst e
    refine ⟨code, way, ?_, h, hw⟩
    simp only [fX4_climb_L7, i_lit]
    rw [h0, if_pos (by decide : nI 0 ≤ nI 0)]
  | succ m ih =>
    intro fl k code way hkm hf h hw
    obtain ⟨fl, rfl⟩ : ∃ q, fl = q + 1 := ⟨fl - 1, by omega⟩
    have hne := hk k (by omega)
    obtain ⟨hi, hl⟩ := fr_in _ hne
    have i1 := hi.ge
    have i3 := hi.le
    obtain ⟨code1, e1, d1⟩ := exch_4 h hi
    rw [← cq_s hne] at d1
    obtain ⟨code', way', e2, e3, e4⟩ := ih fl (k + 1) code1 (upd way k (nI (fr (cq c k)))) (by omega) (by omega) d1 (fun t ht => by
      by_cases e : t = k
      · rw [e, upd_s]
      · rw [upd_n e]; exact hw t (by omega))
    refine ⟨code', way', ?_, e3, e4⟩
    simp only [fX4_climb_L7, i_lit, nmE, nI_add]
    rw [if_neg (fun q => by rw [nI_leI (by omega) (by omega)] at q; omega), if_neg (fun q => by rw [nI_leI (by omega) (by omega)] at q; omega), pI_at (by omega) (by decide), e1, bd_some, rise_4 d1 (cq_B hc _), bd_some]
    exact e2
theorem fillJ_L {v : Int64} {N : Nat} (hN : N < 2 ^ 31) : ∀ (n fl x : Nat) (g : Nat → Int64), x + n = N → n < fl → ∃ g', fJ7_fill_d0a16_L6 N v fl g (nI x) (nI N) = some g' ∧ ∀ y, g' y = if x ≤ y ∧ y < N then v else g y := by
  intro n
  induction n with
  | zero =>
    intro fl x g hx hf
    obtain ⟨fl, rfl⟩ : ∃ q, fl = q + 1 := ⟨fl - 1, by omega⟩
    refine ⟨g, ?_, fun y => by rw [if_neg (by omega)]⟩
    simp only [fJ7_fill_d0a16_L6]
    rw [if_pos ((nI_leI (by omega) (by omega)).mpr (by omega))]
  | succ n ih =>
    intro fl x g hx hf
    obtain ⟨fl, rfl⟩ : ∃ q, fl = q + 1 := ⟨fl - 1, by omega⟩
    obtain ⟨g', e1, e2⟩ := ih fl (x + 1) (vp_updL g x v) (by omega) (by omega)
    refine ⟨g', ?_, fun y => ?_⟩
    · simp only [fJ7_fill_d0a16_L6, i_lit, nmE, nI_add]
      rw [if_neg (fun q => by rw [nI_leI (by omega) (by omega)] at q; omega), pJ_at (by omega) hN]
      exact e1
    · rw [e2 y, updL_at]
      by_cases c : y = x
      · rw [c, if_neg (by omega), if_pos rfl, if_pos (by omega)]
      · rw [if_neg c]
        by_cases c2 : x + 1 ≤ y ∧ y < N
        · rw [if_pos c2, if_pos (by omega)]
        · rw [if_neg c2, if_neg (by omega)]
theorem fillJ_N {v : Int64} {N : Nat} (hN : N < 2 ^ 31) (hf : N < fu) (g : Nat → Int64) : ∃ g', fJ7_fill_d0a16 N g v = some g' ∧ ∀ y, y < N → g' y = v := by
  obtain ⟨g', e1, e2⟩ := fillJ_L (v := v) hN N fu 0 g (Nat.zero_add N) hf
  refine ⟨g', ?_, fun y hy => by rw [e2 y, if_pos ⟨Nat.zero_le _, hy⟩]⟩
  simp only [fJ7_fill_d0a16, nmE, i_lit, show Int32.ofNat N = nI N from rfl]
  exact e1
theorem clear_2 (g : Nat → Int64) : ∃ g', fX2_clear g = some g' ∧ ∀ y, y < 3024 → g' y = 0 := by
  obtain ⟨g', e1, e2⟩ := fillJ_N (v := 0) (by decide : 3024 < 2 ^ 31) (by rw [fu_s]; omega) g
  refine ⟨g', ?_, e2⟩
  simp only [fX2_clear, e1, bd_some]
theorem mono_L {x : Nat} (hx : x < 3024) : ∀ (n fl j : Nat) (g : Nat → Int64) (top : Nat → Int32), j + n = 5 → 1 ≤ j → n < fl → (∀ t, 1 ≤ t → t < j → top t = nI (xc x t)) → ∃ top', fX2_becomeMonomial_L24 (nI x) fl g top (nI j) = some (g, top') ∧ TopOk top' (xc x) := by
  intro n
  induction n with
  | zero =>
    intro fl j g top hj j1 hf h
    obtain ⟨fl, rfl⟩ : ∃ q, fl = q + 1 := ⟨fl - 1, by omega⟩
    refine ⟨top, ?_, fun t t1 t4 => ⟨h t t1 (by omega), xc_le hx t1 (by omega)⟩⟩
    simp only [fX2_becomeMonomial_L24, i_lit]
    rw [if_pos ((nI_ltI (by omega) (by omega)).mpr (by omega))]
  | succ n ih =>
    intro fl j g top hj j1 hf h
    obtain ⟨fl, rfl⟩ : ∃ q, fl = q + 1 := ⟨fl - 1, by omega⟩
    obtain ⟨top', e1, e2⟩ := ih fl (j + 1) g (upd top j (nI (xc x j))) (by omega) (by omega) (by omega) (fun t t1 tj => by
      by_cases e : t = j
      · rw [e, upd_s]
      · rw [upd_n e]; exact h t t1 (by omega))
    refine ⟨top', ?_, e2⟩
    simp only [fX2_becomeMonomial_L24, i_lit, nmE, nI_add]
    rw [if_neg (fun q => by rw [nI_ltI (by omega) (by omega)] at q; omega), exponentAt_5 hx j1 (by omega), bd_some, pI_at (by omega) (by decide)]
    exact e1
theorem cellc_lt {c : Nat → Nat} (hc : CdB c) : cellc c < 3024 := ic_lt (hc 1 (by decide) (by decide)) (hc 2 (by decide) (by decide)) (hc 3 (by decide) (by decide)) (hc 4 (by decide) (by decide))
theorem xc_cellc {c : Nat → Nat} (hc : CdB c) {j : Nat} (h1 : 1 ≤ j) (h4 : j ≤ 4) : xc (cellc c) j = c j := by
  obtain ⟨a, b, c', d⟩ := xc_ic (hc 1 (by decide) (by decide)) (hc 2 (by decide) (by decide)) (hc 3 (by decide) (by decide)) (hc 4 (by decide) (by decide))
  rcases (show j = 1 ∨ j = 2 ∨ j = 3 ∨ j = 4 by omega) with rfl | rfl | rfl | rfl
  · exact a
  · exact b
  · exact c'
  · exact d
theorem mono_2 {c : Nat → Nat} (hc : CdB c) (g : Nat → Int64) (top : Nat → Int32) : ∃ g' top', fX2_becomeMonomial g top (nI (cellc c)) = some (g', top') ∧ (∀ x, x < 3024 → g' x = mono c x) ∧ GTop g' top' := by
  obtain ⟨g1, e1, z1⟩ := clear_2 g
  have hx := cellc_lt hc
  obtain ⟨top', e2, z2⟩ := mono_L hx 4 fu 1 (vp_updL g1 (cellc c) 1) top rfl (by decide) (by rw [fu_s]; omega) (fun t t1 tj => by omega)
  refine ⟨vp_updL g1 (cellc c) 1, top', ?_, ?_, xc (cellc c), z2, ?_⟩
  · simp only [fX2_becomeMonomial, e1, bd_some, i_lit]
    rw [if_neg (fun q => by rw [nI_ltI (by omega) (by omega)] at q; omega), if_neg (fun q => by rw [nI_leI (by omega) (by omega)] at q; omega), pJ_at hx (by decide)]
    exact e2
  · intro x hx'
    unfold mono
    rw [updL_at]
    by_cases e : x = cellc c
    · rw [if_pos e, if_pos e]
    · rw [if_neg e, if_neg e]; exact z1 x hx'
  · rintro x hx' ⟨j, j1, j4, hj⟩
    rw [updL_at]
    by_cases e : x = cellc c
    · rw [e] at hj; omega
    · rw [if_neg e]; exact z1 x hx'
theorem mono_deg {c : Nat → Nat} (hc : CdB c) {x : Nat} (h : dgx x ≠ deg c) : mono c x = 0 := by
  unfold mono
  rw [if_neg (fun e => h (by
    rw [e]
    unfold dgx deg
    rw [xc_cellc hc (by decide) (by decide), xc_cellc hc (by decide) (by decide), xc_cellc hc (by decide) (by decide), xc_cellc hc (by decide) (by decide)]))]
theorem Sx_deg : ∀ (m : Nat) {c : Nat → Nat}, CdB c → ∀ x, x < 3024 → dgx x ≠ deg c → Sx m c x = 0 := by
  intro m
  induction m with
  | zero => intro c hc x _ h; exact mono_deg hc h
  | succ m ih =>
    intro c hc x hx h
    simp only [Sx]
    by_cases h0 : fr c = 0
    · rw [if_pos h0]; exact mono_deg hc h
    · rw [if_neg h0]
      obtain ⟨hi, hl⟩ := fr_in c h0
      refine Dc_deg hi (d := deg c + 1) (fun y hy hd => ih (exc_B hc hi hl) y hy (by rw [exc_deg c hi]; exact hd)) hx (by omega)
theorem deg_le {c : Nat → Nat} (hc : CdB c) : deg c ≤ 26 := by
  have a := hc 1 (by decide) (by decide)
  have b := hc 2 (by decide) (by decide)
  have c' := hc 3 (by decide) (by decide)
  have d := hc 4 (by decide) (by decide)
  unfold deg
  omega
theorem make_L110 {p1 made : Int32} {c : Nat → Nat} (hc : CdB c) {n : Nat} (hn : n ≤ 6) (hk : ∀ k, k < n → fr (cq c k) ≠ 0) {code way : Nat → Int32} (hw : ∀ t, t < n → way t = nI (fr (cq c t))) : ∀ (k fl : Nat) (g : Nat → Int64) (top : Nat → Int32), k ≤ n → k < fl → (∀ x, x < 3024 → g x = Sx (6 - k) (cq c k) x) → GTop g top → ∃ g' top', fX4_make_L110 p1 fl g top code way made (nI (deg (cq c k))) (nI k - nI 1) = some (g', top', code, way, made) ∧ ∀ x, x < 3024 → g' x = SS c x := by
  intro k
  induction k with
  | zero =>
    intro fl g top hkn hf hg ht
    obtain ⟨fl, rfl⟩ : ∃ q, fl = q + 1 := ⟨fl - 1, by omega⟩
    refine ⟨g, top, ?_, hg⟩
    simp only [fX4_make_L110, i_lit]
    rw [if_pos (by decide : nI 0 - nI 1 < nI 0)]
  | succ k ih =>
    intro fl g top hkn hf hg ht
    obtain ⟨fl, rfl⟩ : ∃ q, fl = q + 1 := ⟨fl - 1, by omega⟩
    have hne := hk k (by omega)
    obtain ⟨hi, hl⟩ := fr_in _ hne
    have hB := cq_B hc (k + 1)
    have hdl := deg_le hB
    obtain ⟨g1, top1, e1, e2, e3⟩ := differ_g hi ht (by omega : deg (cq c (k + 1)) ≤ deg (cq c (k + 1)) + 1) hdl (fun x hx h => by rw [hg x hx]; exact Sx_deg _ hB x hx (by omega))
    have hs : ∀ x, x < 3024 → g1 x = Sx (6 - k) (cq c k) x := by
      intro x hx
      rw [e2 x hx, Dc_congr hi hg hx, show 6 - k = (6 - (k + 1)) + 1 by omega]
      simp only [Sx]
      rw [if_neg hne, cq_s hne]
    obtain ⟨g', top', e4, e5⟩ := ih fl g1 top1 (by omega) (by omega) hs e3
    refine ⟨g', top', ?_, e5⟩
    have hd1 := cq_deg n hk (k + 1) hkn
    have hd0 := cq_deg n hk k (by omega)
    rw [show nI (k + 1) - nI 1 = nI k by rw [i_dif (by omega)]; rfl]
    simp only [fX4_make_L110, i_lit, nmE]
    rw [if_neg (fun q => by rw [nI_ltI (by omega) (by omega)] at q; omega), if_neg (fun q => by rw [nI_leI (by omega) (by omega)] at q; omega), gI_at (by omega) (by decide), hw k (by omega), e1, bd_some, nI_dec (by omega), show deg (cq c (k + 1)) - 1 = deg (cq c k) by omega, show nI k + -nI 1 = nI k - nI 1 by grind]
    exact e4
theorem make_L16 {x : Nat} (hx : x < 3024) {made : Int32} : ∀ (m fl j : Nat) (g : Nat → Int64) (top code way : Nat → Int32), j + m = 5 → 1 ≤ j → m < fl → (∀ t, 1 ≤ t → t < j → code t = nI (xc x t)) → ∃ g' top' code' way', fX4_make_L16 (nI x) fl g top code way made (nI j) = some (g', top', code', way', made) ∧ ∀ y, y < 3024 → g' y = SS (xc x) y := by
  have hB : CdB (xc x) := fun j j1 j4 => xc_le hx j1 (by omega)
  intro m
  induction m with
  | zero =>
    intro fl j g top code way hj j1 hf h
    obtain ⟨fl, rfl⟩ : ∃ q, fl = q + 1 := ⟨fl - 1, by omega⟩
    obtain ⟨n, hn, h0, hk⟩ := cq_n hB
    have hco : CodeOk code (cq (xc x) 0) := fun t t1 t4 => h t t1 (by omega)
    obtain ⟨code1, way1, e1, d1, w1⟩ := climb_L hB hn h0 hk n fu 0 code way (by omega) (by rw [fu_s]; omega) hco (fun t ht => by omega)
    have hBn := cq_B hB n
    have q1 := hBn 1 (by decide) (by decide)
    have q2 := hBn 2 (by decide) (by decide)
    have q3 := hBn 3 (by decide) (by decide)
    have q4 := hBn 4 (by decide) (by decide)
    obtain ⟨g1, top1, e2, d2, t2⟩ := mono_2 hBn g top
    obtain ⟨g', top', e3, d3⟩ := make_L110 (p1 := nI x) (made := made) hB hn hk (code := code1) (way := way1) w1 n fu g1 top1 (Nat.le_refl _) (by rw [fu_s]; omega) (fun y hy => by rw [Sx_end h0]; exact d2 y hy) t2
    refine ⟨g', top', code1, way1, ?_, d3⟩
    have hr := rise_4 hco hB
    have hcl : fX4_climb code way = some (nI n, code1, way1) := by
      simp only [fX4_climb, hr, bd_some, i_lit]
      exact e1
    have hcell : fX5_cellOf (nI (cq (xc x) n 1)) (nI (cq (xc x) n 2)) (nI (cq (xc x) n 3)) (nI (cq (xc x) n 4)) = some (nI (cellc (cq (xc x) n))) := cellOf_in q1 q2 q3 q4
    simp only [fX4_make_L16, i_lit, nmE, hcl, bd_some]
    rw [if_pos ((nI_ltI (by omega) (by omega)).mpr (by omega))]
    simp only [gI_at (by decide : 1 < 5) (by decide : 5 < 2 ^ 31), gI_at (by decide : 2 < 5) (by decide : 5 < 2 ^ 31), gI_at (by decide : 3 < 5) (by decide : 5 < 2 ^ 31), gI_at (by decide : 4 < 5) (by decide : 5 < 2 ^ 31), d1 1 (by decide) (by decide), d1 2 (by decide) (by decide), d1 3 (by decide) (by decide), d1 4 (by decide) (by decide), hcell, bd_some, e2, nI_add]
    exact e3
  | succ m ih =>
    intro fl j g top code way hj j1 hf h
    obtain ⟨fl, rfl⟩ : ∃ q, fl = q + 1 := ⟨fl - 1, by omega⟩
    obtain ⟨g', top', code', way', e1, e2⟩ := ih fl (j + 1) g top (upd code j (nI (xc x j))) way (by omega) (by omega) (by omega) (fun t t1 tj => by
      by_cases e : t = j
      · rw [e, upd_s]
      · rw [upd_n e]; exact h t t1 (by omega))
    refine ⟨g', top', code', way', ?_, e2⟩
    simp only [fX4_make_L16, i_lit, nmE, nI_add]
    rw [if_neg (fun q => by rw [nI_ltI (by omega) (by omega)] at q; omega), exponentAt_5 hx j1 (by omega), bd_some, pI_at (by omega) (by decide)]
    exact e1
/-- the single grid holds S of what it says -/
def SingleOk (g : Nat → Int64) (made : Int32) : Prop := made = -nI 1 ∨ ∃ x, x < 3024 ∧ made = nI x ∧ ∀ y, y < 3024 → g y = SS (xc x) y
theorem make_4 {g : Nat → Int64} {made : Int32} (h : SingleOk g made) (top code way : Nat → Int32) {x : Nat} (hx : x < 3024) : ∃ g' top' code' way', fX4_make g top code way made (nI x) = some (g', top', code', way', nI x) ∧ ∀ y, y < 3024 → g' y = SS (xc x) y := by
  simp only [fX4_make, i_lit]
  by_cases hm : nI x = made
  · rw [if_pos hm]
    refine ⟨g, top, code, way, by rw [hm], ?_⟩
    rcases h with h | ⟨z, hz, e, hg⟩
    · rw [← hm] at h; exact absurd h (nI_ne_m1 (by omega))
    · rw [← hm] at e
      have := (nI_eq (by omega) (by omega)).mp e
      subst this
      exact hg
  · rw [if_neg hm]
    exact make_L16 hx 4 fu 1 g top code way rfl (by decide) (by rw [fu_s]; omega) (fun t t1 tj => by omega)
/-! the reference's -/
theorem findS_skip {poly th : Nat → Int64} {steps row : Nat → Int32} {x2 : Int32} {w : Nat → Nat} (h : Dg row w) {f i : Nat} (i1 : 1 ≤ i) (i3 : i ≤ 3) (hc : ¬ cnt w i < cnt w (i + 1)) : fX6_findS_L4 (f + 1) poly th steps row x2 (nI i) = fX6_findS_L4 f poly th steps row x2 (nI (i + 1)) := by
  have a := cnt_le w i
  have b := cnt_le w (i + 1)
  simp only [fX6_findS_L4, i_lit, nmE, nI_add, codeAt_6 h i1 (by omega : i ≤ 9), codeAt_6 h (by omega : 1 ≤ i + 1) (by omega : i + 1 ≤ 9), bd_some]
  rw [if_neg (fun q => by rw [nI_leI (by omega) (by omega)] at q; omega), if_pos ((nI_leI (by omega) (by omega)).mpr (by omega))]
theorem findS_hit {poly th : Nat → Int64} {steps row : Nat → Int32} {k : Nat} (hk : k < 64) {w : Nat → Nat} (h : Dg row w) {f i : Nat} (i1 : 1 ≤ i) (i3 : i ≤ 3) (hc : cnt w i < cnt w (i + 1)) : ∃ row', fX6_findS_L4 (f + 1) poly th steps row (nI k) (nI i) = fX6_findS_L4 f poly th (upd steps k (nI i)) row' (nI (k + 1)) (nI 1) ∧ Dg row' (sw w i (i + 1)) := by
  have a := cnt_le w i
  have b := cnt_le w (i + 1)
  obtain ⟨row', e1, d1⟩ := exch_6 h i1 (by omega : i ≤ 9) (by omega : 1 ≤ i + 1) (by omega : i + 1 ≤ 9)
  refine ⟨row', ?_, d1⟩
  simp only [fX6_findS_L4, i_lit, nmE, nI_add, codeAt_6 h i1 (by omega : i ≤ 9), codeAt_6 h (by omega : 1 ≤ i + 1) (by omega : i + 1 ≤ 9), bd_some, e1]
  rw [if_neg (fun q => by rw [nI_leI (by omega) (by omega)] at q; omega), if_neg (fun q => by rw [nI_leI (by omega) (by omega)] at q; omega), pI_at hk (by decide)]
theorem findS_climb {c : Nat → Nat} {n : Nat} (hn : n ≤ 6) (h0 : fr (cq c n) = 0) (hk : ∀ k, k < n → fr (cq c k) ≠ 0) (poly th : Nat → Int64) : ∀ (m fl k : Nat) (steps row : Nat → Int32) (w : Nat → Nat), k + m = n → 4 * m + 4 ≤ fl → Dg row w → (∀ j, 1 ≤ j → j ≤ 4 → cnt w j = cq c k j) → (∀ t, t < k → steps t = nI (fr (cq c t))) → ∃ steps' row' w', fX6_findS_L4 fl poly th steps row (nI k) (nI 1) = fX6_findS_L56 fu poly th steps' row' (nI n) (nI 0) ∧ Dg row' w' ∧ (∀ j, 1 ≤ j → j ≤ 4 → cnt w' j = cq c n j) ∧ ∀ t, t < n → steps' t = nI (fr (cq c t)) := by
  intro m
  induction m with
  | zero =>
    intro fl k steps row w hkm hf h hc hs
    have e : k = n := by omega
    subst e
    obtain ⟨fl, rfl⟩ : ∃ q, fl = q + 1 + 1 + 1 + 1 := ⟨fl - 4, by omega⟩
    have hz := h0
    unfold fr at hz
    have z1 : ¬ cq c k 1 < cq c k 2 := fun q => by rw [if_pos q] at hz; omega
    rw [if_neg z1] at hz
    have z2 : ¬ cq c k 2 < cq c k 3 := fun q => by rw [if_pos q] at hz; omega
    rw [if_neg z2] at hz
    have z3 : ¬ cq c k 3 < cq c k 4 := fun q => by rw [if_pos q] at hz; omega
    refine ⟨steps, row, w, ?_, h, hc, hs⟩
    rw [findS_skip h (by decide) (by decide) (by rw [hc 1 (by decide) (by decide), hc (1 + 1) (by decide) (by decide)]; exact z1), findS_skip h (by decide) (by decide) (by rw [hc (1 + 1) (by decide) (by decide), hc (1 + 1 + 1) (by decide) (by decide)]; exact z2), findS_skip h (by decide) (by decide) (by rw [hc (1 + 1 + 1) (by decide) (by decide), hc (1 + 1 + 1 + 1) (by decide) (by decide)]; exact z3)]
    simp only [fX6_findS_L4, i_lit]
    rw [if_pos (by decide : nI 4 ≤ nI (1 + 1 + 1 + 1))]
  | succ m ih =>
    intro fl k steps row w hkm hf h hc hs
    have hne := hk k (by omega)
    obtain ⟨hi, hl⟩ := fr_in _ hne
    have i1 := hi.ge
    have i3 := hi.le
    have go : ∀ f, 4 * m + 4 ≤ f → ∃ steps' row' w', fX6_findS_L4 (f + 1) poly th steps row (nI k) (nI (fr (cq c k))) = fX6_findS_L56 fu poly th steps' row' (nI n) (nI 0) ∧ Dg row' w' ∧ (∀ j, 1 ≤ j → j ≤ 4 → cnt w' j = cq c n j) ∧ ∀ t, t < n → steps' t = nI (fr (cq c t)) := by
      intro f hf
      have hlw : cnt w (fr (cq c k)) < cnt w (fr (cq c k) + 1) := by rw [hc _ i1 (by omega), hc _ (by omega) (by omega)]; exact hl
      obtain ⟨row1, e1, d1⟩ := findS_hit (poly := poly) (th := th) (steps := steps) (by omega : k < 64) h (f := f) i1 i3 hlw
      have hww := cnt_lt i1 (by omega) hlw
      obtain ⟨s', r', w', e2, e3, e4, e5⟩ := ih f (k + 1) (upd steps k (nI (fr (cq c k)))) row1 _ (by omega) hf d1 (fun j j1 j4 => by
        rw [cq_s hne]
        unfold exc
        by_cases x1 : j = fr (cq c k)
        · rw [if_pos x1, x1, cnt_sw_a i1 (by omega) hww, hc _ (by omega) (by omega)]
        · rw [if_neg x1]
          by_cases x2 : j = fr (cq c k) + 1
          · rw [if_pos x2, x2, cnt_sw_b i1 (by omega) hww, hc _ i1 (by omega)]
          · rw [if_neg x2, cnt_sw_o i1 (by omega) j1 (by omega) x1 x2, hc j j1 j4]) (fun t ht => by
        by_cases e : t = k
        · rw [e, upd_s]
        · rw [upd_n e]; exact hs t (by omega))
      exact ⟨s', r', w', e1.trans e2, e3, e4, e5⟩
    have hz : fr (cq c k) = if cq c k 1 < cq c k 2 then 1 else if cq c k 2 < cq c k 3 then 2 else if cq c k 3 < cq c k 4 then 3 else 0 := rfl
    by_cases z1 : cq c k 1 < cq c k 2
    · rw [if_pos z1] at hz
      obtain ⟨fl, rfl⟩ : ∃ q, fl = q + 1 := ⟨fl - 1, by omega⟩
      have := go fl (by omega)
      rw [hz] at this
      exact this
    · rw [if_neg z1] at hz
      have y1 : ¬ cnt w 1 < cnt w (1 + 1) := by rw [hc 1 (by decide) (by decide), hc (1 + 1) (by decide) (by decide)]; exact z1
      by_cases z2 : cq c k 2 < cq c k 3
      · rw [if_pos z2] at hz
        obtain ⟨fl, rfl⟩ : ∃ q, fl = q + 1 + 1 := ⟨fl - 2, by omega⟩
        have := go fl (by omega)
        rw [hz] at this
        rw [findS_skip h (by decide) (by decide) y1]
        exact this
      · rw [if_neg z2] at hz
        have y2 : ¬ cnt w (1 + 1) < cnt w (1 + 1 + 1) := by rw [hc (1 + 1) (by decide) (by decide), hc (1 + 1 + 1) (by decide) (by decide)]; exact z2
        by_cases z3 : cq c k 3 < cq c k 4
        · rw [if_pos z3] at hz
          obtain ⟨fl, rfl⟩ : ∃ q, fl = q + 1 + 1 + 1 := ⟨fl - 3, by omega⟩
          have := go fl (by omega)
          rw [hz] at this
          rw [findS_skip h (by decide) (by decide) y1, findS_skip h (by decide) (by decide) y2]
          exact this
        · rw [if_neg z3] at hz
          exact absurd hz hne
theorem cellOf_6 (a b c d : Nat) : fX6_cellOf (nI a) (nI b) (nI c) (nI d) = some (nI (ir a b c d)) := by
  simp only [fX6_cellOf, i_lit, nI_mul, nI_add]; rfl
theorem findS_L112 {c : Nat → Nat} {n : Nat} (hn : n ≤ 6) (hk : ∀ k, k < n → fr (cq c k) ≠ 0) {steps row : Nat → Int32} (hs : ∀ t, t < n → steps t = nI (fr (cq c t))) : ∀ (k fl : Nat) (poly th : Nat → Int64), k ≤ n → k < fl → PR (Sx (6 - k) (cq c k)) poly → ∃ poly' th', fX6_findS_L112 fl poly th steps row (nI k - nI 1) = some (poly', th', steps, row) ∧ PR (SS c) poly' := by
  intro k
  induction k with
  | zero =>
    intro fl poly th hkn hf hp
    obtain ⟨fl, rfl⟩ : ∃ q, fl = q + 1 := ⟨fl - 1, by omega⟩
    refine ⟨poly, th, ?_, hp⟩
    simp only [fX6_findS_L112, i_lit]
    rw [if_pos (by decide : nI 0 - nI 1 < nI 0)]
  | succ k ih =>
    intro fl poly th hkn hf hp
    obtain ⟨fl, rfl⟩ : ∃ q, fl = q + 1 := ⟨fl - 1, by omega⟩
    have hne := hk k (by omega)
    obtain ⟨hi, hl⟩ := fr_in _ hne
    obtain ⟨th1, poly1, e1, d1⟩ := differs_6 hi th poly
    have hp1 : PR (Sx (6 - k) (cq c k)) poly1 := by
      refine PR.of hi (fun u v a b hb => ?_)
      rw [d1 u v a b hb, show 6 - k = (6 - (k + 1)) + 1 by omega]
      simp only [Sx]
      rw [if_neg hne, ← cq_s hne, Dc_Ci hi hb]
      exact DD_congr (fun x y hx hy _ => hp.at hi ⟨hb.1, hb.2.1, hx, hy⟩)
    obtain ⟨poly', th', e2, d2⟩ := ih fl poly1 th1 (by omega) (by omega) hp1
    refine ⟨poly', th', ?_, d2⟩
    rw [show nI (k + 1) - nI 1 = nI k by rw [i_dif (by omega)]; rfl]
    simp only [fX6_findS_L112, i_lit, nmE]
    rw [if_neg (fun q => by rw [nI_ltI (by omega) (by omega)] at q; omega), gI_at (by omega) (by decide), hs k (by omega), e1, bd_some, show nI k + -nI 1 = nI k - nI 1 by grind]
    exact e2
theorem mono_PR {c : Nat → Nat} (hB : CdB c) {poly : Nat → Int64} (hz : ∀ y, y < 3024 → poly y = 0) : PR (mono c) (vp_updL poly (ir (c 1) (c 2) (c 3) (c 4)) 1) := by
  have q1 := hB 1 (by decide) (by decide)
  have q2 := hB 2 (by decide) (by decide)
  have q3 := hB 3 (by decide) (by decide)
  have q4 := hB 4 (by decide) (by decide)
  intro a b c' d ha hb hc' hd
  rw [updL_at]
  unfold mono cellc
  have hi1 := xc_ic ha hb hc' hd
  have hi2 := xc_ic q1 q2 q3 q4
  have hr1 := xr_ir ha hb hc' hd
  have hr2 := xr_ir q1 q2 q3 q4
  by_cases e : a = c 1 ∧ b = c 2 ∧ c' = c 3 ∧ d = c 4
  · obtain ⟨rfl, rfl, rfl, rfl⟩ := e
    rw [if_pos rfl, if_pos rfl]
  · have n1 : ¬ ic a b c' d = ic (c 1) (c 2) (c 3) (c 4) := fun q => e (by
      rw [q] at hi1
      exact ⟨hi1.1.symm.trans hi2.1, hi1.2.1.symm.trans hi2.2.1, hi1.2.2.1.symm.trans hi2.2.2.1, hi1.2.2.2.symm.trans hi2.2.2.2⟩)
    have n2 : ¬ ir a b c' d = ir (c 1) (c 2) (c 3) (c 4) := fun q => e (by
      rw [q] at hr1
      exact ⟨hr1.1.symm.trans hr2.1, hr1.2.1.symm.trans hr2.2.1, hr1.2.2.1.symm.trans hr2.2.2.1, hr1.2.2.2.symm.trans hr2.2.2.2⟩)
    rw [if_neg n1, if_neg n2]
    exact (hz _ (ir_lt ha hb hc' hd)).symm
theorem findS_L56_end {steps row : Nat → Int32} {w : Nat → Nat} (h : Dg row w) {x2 : Int32} {fl x : Nat} (hx : x = 3024) (hlt : ir (cnt w 1) (cnt w 2) (cnt w 3) (cnt w 4) < 3024) (poly th : Nat → Int64) {z : Option ((Nat → Int64) × (Nat → Int64) × (Nat → Int32) × (Nat → Int32))} (hz : fX6_findS_L112 fu (vp_updL poly (ir (cnt w 1) (cnt w 2) (cnt w 3) (cnt w 4)) 1) th steps row (x2 - nI 1) = z) : fX6_findS_L56 (fl + 1) poly th steps row x2 (nI x) = z := by
  rw [fX6_findS_L56]
  simp only [i_lit]
  rw [if_pos ((nI_leI (by omega) (by omega)).mpr (by omega)), codeAt_6 h (by decide : 1 ≤ 1) (by decide), bd_some, codeAt_6 h (by decide : 1 ≤ 2) (by decide), bd_some, codeAt_6 h (by decide : 1 ≤ 3) (by decide), bd_some, codeAt_6 h (by decide : 1 ≤ 4) (by decide), bd_some, cellOf_6, bd_some, pJ_at hlt (by decide), nmE]
  exact hz
theorem findS_L56 {c : Nat → Nat} (hc : CdB c) {n : Nat} (hn : n ≤ 6) (h0 : fr (cq c n) = 0) (hk : ∀ k, k < n → fr (cq c k) ≠ 0) {steps row : Nat → Int32} (hs : ∀ t, t < n → steps t = nI (fr (cq c t))) {w : Nat → Nat} (h : Dg row w) (hcn : ∀ j, 1 ≤ j → j ≤ 4 → cnt w j = cq c n j) : ∀ (m fl x : Nat) (poly th : Nat → Int64), x + m = 3024 → m < fl → (∀ y, y < x → poly y = 0) → ∃ poly' th', fX6_findS_L56 fl poly th steps row (nI n) (nI x) = some (poly', th', steps, row) ∧ PR (SS c) poly' := by
  intro m
  induction m with
  | zero =>
    intro fl x poly th hx hf hz
    obtain ⟨fl, rfl⟩ : ∃ q, fl = q + 1 := ⟨fl - 1, by omega⟩
    have hB := cq_B hc n
    have q1 := hB 1 (by decide) (by decide)
    have q2 := hB 2 (by decide) (by decide)
    have q3 := hB 3 (by decide) (by decide)
    have q4 := hB 4 (by decide) (by decide)
    have hlt := ir_lt q1 q2 q3 q4
    have hp : PR (Sx (6 - n) (cq c n)) (vp_updL poly (ir (cq c n 1) (cq c n 2) (cq c n 3) (cq c n 4)) 1) := by
      rw [Sx_end h0]
      exact mono_PR hB (fun y hy => hz y (by omega))
    obtain ⟨poly', th', e1, d1⟩ := findS_L112 hn hk (row := row) hs n fu _ th (Nat.le_refl _) (by rw [fu_s]; omega) hp
    refine ⟨poly', th', ?_, d1⟩
    rw [← hcn 1 (by decide) (by decide), ← hcn 2 (by decide) (by decide), ← hcn 3 (by decide) (by decide), ← hcn 4 (by decide) (by decide)] at e1 hlt
    exact findS_L56_end h (by omega) hlt poly th e1
  | succ m ih =>
    intro fl x poly th hx hf hz
    obtain ⟨fl, rfl⟩ : ∃ q, fl = q + 1 := ⟨fl - 1, by omega⟩
    obtain ⟨poly', th', e1, d1⟩ := ih fl (x + 1) (vp_updL poly x 0) th (by omega) (by omega) (fun y hy => by
      rw [updL_at]
      by_cases e : y = x
      · rw [if_pos e]
      · rw [if_neg e]; exact hz y (by omega))
    refine ⟨poly', th', ?_, d1⟩
    simp only [fX6_findS_L56, i_lit, nmE, nI_add]
    rw [if_neg (fun q => by rw [nI_leI (by omega) (by omega)] at q; omega), pJ_at (by omega) (by decide)]
    exact e1
theorem findS_6 (poly th : Nat → Int64) (steps : Nat → Int32) {row : Nat → Int32} {w : Nat → Nat} (h : Dg row w) {c : Nat → Nat} (hcw : ∀ j, 1 ≤ j → j ≤ 4 → cnt w j = c j) : ∃ poly' th' steps' row', fX6_findS poly th steps row = some (poly', th', steps', row') ∧ PR (SS c) poly' := by
  have hc : CdB c := fun j j1 j4 => by rw [← hcw j j1 j4]; exact cnt_le w j
  obtain ⟨n, hn, h0, hk⟩ := cq_n hc
  obtain ⟨s', r', w', e1, d1, d2, d3⟩ := findS_climb hn h0 hk poly th n fu 0 steps row w (by omega) (by rw [fu_s]; omega) h hcw (fun t ht => by omega)
  obtain ⟨p', t', e2, d4⟩ := findS_L56 hc hn h0 hk d3 d1 d2 3024 fu 0 poly th rfl (by rw [fu_s]; omega) (fun y hy => by omega)
  refine ⟨p', t', s', r', ?_, d4⟩
  simp only [fX6_findS, i_lit]
  exact e1.trans e2
