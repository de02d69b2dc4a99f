/-! ===== multiply ===== -/
theorem room_L {t1 t2 : Nat → Int32} {A B : Nat → Nat} (h1 : TopOk t1 A) (h2 : TopOk t2 B) : ∀ (m fl j : Nat), j + m = 5 → 1 ≤ j → m < fl → (fX2_hasRoomFor_L2 t1 t2 fl (nI j) = some (nI 1) ∧ ∀ i, j ≤ i → i ≤ 4 → A i + B i ≤ 9 - i) ∨ (fX2_hasRoomFor_L2 t1 t2 fl (nI j) = some (nI 0) ∧ ∃ i, j ≤ i ∧ i ≤ 4 ∧ 9 - i < A i + B i) := by
  intro m
  induction m with
  | zero =>
    intro fl j hj j1 hf
    obtain ⟨fl, rfl⟩ : ∃ q, fl = q + 1 := ⟨fl - 1, by omega⟩
    refine Or.inl ⟨?_, fun i a b => by omega⟩
    simp only [fX2_hasRoomFor_L2, i_lit]
    rw [if_pos ((nI_ltI (by omega) (by omega)).mpr (by omega))]
  | succ m ih =>
    intro fl j hj j1 hf
    obtain ⟨fl, rfl⟩ : ∃ q, fl = q + 1 := ⟨fl - 1, by omega⟩
    obtain ⟨a1, a2⟩ := h1 j j1 (by omega)
    obtain ⟨b1, b2⟩ := h2 j j1 (by omega)
    simp only [fX2_hasRoomFor_L2, i_lit, nmE, nI_add]
    rw [if_neg (fun q => by rw [nI_ltI (by omega) (by omega)] at q; omega), gI_at (by omega) (by decide), gI_at (by omega) (by decide), gI_at (by omega) (by decide), a1, b1, most_at j (by omega) j1, nI_add]
    by_cases c : A j + B j ≤ 9 - j
    · rw [if_pos ((nI_leI (by omega) (by omega)).mpr c)]
      rcases ih fl (j + 1) (by omega) (by omega) (by omega) with ⟨e, q⟩ | ⟨e, i, q1, q2, q3⟩
      · refine Or.inl ⟨e, fun i i1 i2 => ?_⟩
        by_cases d : i = j
        · rw [d]; exact c
        · exact q i (by omega) i2
      · exact Or.inr ⟨e, i, by omega, q2, q3⟩
    · rw [if_neg (fun q => by rw [nI_leI (by omega) (by omega)] at q; omega)]
      exact Or.inr ⟨rfl, j, Nat.le_refl _, by omega, by omega⟩
theorem nz_le (p : Nat → Int64) (n a : Nat) : sm (nz p) a n ≤ n := by
  have := sm_le (f := nz p) (b := 1) n a (fun k _ _ => by unfold nz; split <;> omega)
  omega
theorem nz_zero {p : Nat → Int64} : ∀ (n a : Nat), sm (nz p) a n = 0 → ∀ y, a ≤ y → y < a + n → p y = 0 := by
  intro n
  induction n with
  | zero => intro a _ y y1 y2; omega
  | succ n ih =>
    intro a h y y1 y2
    simp only [sm] at h
    by_cases c : y = a
    · rw [c]
      apply Classical.byContradiction
      intro q
      have : nz p a = 1 := if_neg q
      omega
    · exact ih (a + 1) (by omega) y (by omega) (by omega)
theorem room_in {g p : Nat → Int64} {A B : Nat → Nat} (hA : Mx g A) (hB : Mx p B) (hr : ∀ j, 1 ≤ j → j ≤ 4 → A j + B j ≤ 9 - j) {x y : Nat} (hx : x < 3024) (hy : y < 3024) (hg : g x ≠ 0) (hp : p y ≠ 0) : x + y < 3024 := by
  have a1 := hA.1 x hx hg 1 (by decide) (by decide)
  have a2 := hA.1 x hx hg 2 (by decide) (by decide)
  have a3 := hA.1 x hx hg 3 (by decide) (by decide)
  have a4 := hA.1 x hx hg 4 (by decide) (by decide)
  have b1 := hB.1 y hy hp 1 (by decide) (by decide)
  have b2 := hB.1 y hy hp 2 (by decide) (by decide)
  have b3 := hB.1 y hy hp 3 (by decide) (by decide)
  have b4 := hB.1 y hy hp 4 (by decide) (by decide)
  have r1 := hr 1 (by decide) (by decide)
  have r2 := hr 2 (by decide) (by decide)
  have r3 := hr 3 (by decide) (by decide)
  have r4 := hr 4 (by decide) (by decide)
  have e1 : xc x 1 + 9 * xc x 2 + 72 * xc x 3 + 504 * xc x 4 = x := ic_xc x
  have e2 : xc y 1 + 9 * xc y 2 + 72 * xc y 3 + 504 * xc y 4 = y := ic_xc y
  omega
theorem oq_multiply {g page sheet : Nat → Int64} {made : Int32} (hS : SingleOk g made) (hP : PR page sheet) (hL : Lm page) (known isP : Int32) (k1 ptop top code way k2 : Nat → Int32) (draft poly th next wide : Nat → Int64) (steps : Nat → Int32) (a1 : Int32) : ∃ (r5 : Int32 × (Nat → Int32) × (Nat → Int64) × (Nat → Int32) × (Nat → Int64) × (Nat → Int32) × (Nat → Int32) × (Nat → Int32) × Int32 × (Nat → Int64) × Int32) (r6 : Int32 × (Nat → Int32) × (Nat → Int64) × (Nat → Int64) × (Nat → Int32) × (Nat → Int64) × (Nat → Int64) × Int32 × (Nat → Int64)), fX5_multiply k1 page ptop g top code way made draft known a1 = some r5 ∧ fX6_multiply k2 poly th steps sheet next isP wide a1 = some r6 ∧ r5.1 = r6.1 ∧ SingleOk r5.2.2.2.2.1 r5.2.2.2.2.2.2.2.2.1 ∧ ShOk page draft known sheet isP r5.2.2.1 r5.2.2.2.2.2.2.2.2.2.1 r5.2.2.2.2.2.2.2.2.2.2 r6.2.2.2.2.2.1 r6.2.2.2.2.2.2.2.1 := by
  obtain ⟨q1, q2, h⟩ := fit_cases k1 k2 a1
  have h10 : ¬ nI 1 = nI 0 := by decide
  rcases h with ⟨h1, h2⟩ | ⟨h1, h2, h3⟩ | ⟨x, w, hx, h1, h2, h3, h4, h5, h6⟩
  · refine ⟨(-nI 2, q1, page, ptop, g, top, code, way, made, draft, known), (-nI 2, q2, poly, th, steps, sheet, next, isP, wide), ?_, ?_, rfl, hS, ShOk.rf⟩
    · simp only [fX5_multiply, h1, bd_go, i_lit]
      rw [if_neg (by decide : ¬ nI 0 ≤ -nI 2)]
    · simp only [fX6_multiply, h2, bd_go, i_lit]
      rw [if_pos trivial]
  · refine ⟨(-nI 3, q1, page, ptop, g, top, code, way, made, draft, known), (-nI 3, q2, poly, th, steps, sheet, next, isP, wide), ?_, ?_, rfl, hS, ShOk.rf⟩
    · simp only [fX5_multiply, h1, bd_go, i_lit]
      rw [if_neg (by decide : ¬ nI 0 ≤ -nI 3)]
    · simp only [fX6_multiply, h2, h3, bd_go, i_lit]
      rw [if_neg h10, if_pos trivial]
  · obtain ⟨g', t', c', w', e1, d1⟩ := make_4 hS top code way hx
    obtain ⟨p', th', s', r', e2, d2⟩ := findS_6 poly th steps h4 h5
    have hS' : SingleOk g' (nI x) := Or.inr ⟨x, hx, rfl, d1⟩
    obtain ⟨tA, A, e3, z1, hA⟩ := measure_2 page ptop
    obtain ⟨tB, B, e4, z2, hB⟩ := measure_2 g' t'
    obtain ⟨wd, e5, z3⟩ := product_6 p' sheet wide
    obtain ⟨b, nx', wd', e6, z4, z5⟩ := keeps_6 next wd
    have hcg : PR g' p' := d2.congr d1
    have hw : ∀ z, z < 36465 → wd z = sJ (fun t => sJ (ptc page g' z t) 0 3024) 0 3024 := fun z hz => by rw [z3 z hz, wide_c hP hcg]
    have hle := nz_le page 3024 0
    by_cases h0 : sm (nz page) 0 3024 = 0
    · have hz := nz_zero 3024 0 h0
      have hz' : ∀ y, y < 3024 → page y = 0 := fun y hy => hz y (Nat.zero_le _) (by omega)
      have hwz : ∀ z, z < 36465 → wd z = 0 := by
        intro z hz2
        rw [hw z hz2]
        refine sJ_zero _ _ (fun t _ ht => ?_)
        refine sJ_zero _ _ (fun u _ _ => ?_)
        unfold ptc
        rw [mul_z1 (hz' t (by omega))]
        split <;> rfl
      have hb : b = true := z5.mpr (fun z hz2 _ => hwz z hz2)
      have hn : ∀ y, y < 3024 → nx' y = 0 := fun y hy => by rw [z4 y hy]; exact hwz _ (wr_lt1 hy)
      rcases becomes_L (next := nx') (sheet := sheet) (isP := isP) 3024 fu 0 rfl (by rw [fu_s]; omega) with ⟨e7, _⟩ | ⟨_, y, _, y1, y2⟩
      · obtain ⟨sh, e8, z6⟩ := becomes_L46 (next := nx') (isP := isP) 3024 fu 0 sheet rfl (by rw [fu_s]; omega) (fun y hy => by omega)
        have hs0 : ∀ y, y < 3024 → sh y = 0 := fun y hy => by rw [z6 y hy]; exact hn y hy
        have hc0 : sm (nz sh) 0 3024 = 0 := sm_zero _ _ (fun k _ hk => if_pos (hs0 k (by omega)))
        refine ⟨(nI 0, q1, page, tA, g', tB, c', w', nI x, draft, known), (nI 0, r', p', th', s', sh, nx', nI 0, wd'), ?_, ?_, rfl, hS', Or.inr (Or.inr (Or.inl ⟨rfl, rfl, rfl, PR_zero hz' hs0, hL, rfl⟩))⟩
        · simp only [fX5_multiply, h1, bd_go, i_lit, e1, e3, e4, filled_2, h0]
          rw [if_pos (nI_nn hx), if_pos trivial]
        · have hbec : fX6_becomes sheet nx' isP = some (nI 0, sh, nI 0) := by
            simp only [fX6_becomes, i_lit]
            rw [e7, e8, hc0]
          simp only [fX6_multiply, h2, h3, bd_go, i_lit, e2, e5, e6, hb, hbec]
          rw [if_neg h10, if_neg h10, if_neg fB_n]
      · rw [hn y y1] at y2
        rcases y2 with q | q
        · exact absurd q (by decide)
        · exact absurd q (by decide)
    · have hne : ¬ nI (sm (nz page) 0 3024) = nI 0 := fun q => h0 ((nI_eq (by omega) (by decide)).mp q)
      have hg : ∃ y, y < 3024 ∧ page y ≠ 0 := by
        apply Classical.byContradiction
        intro q
        apply h0
        exact sm_zero _ _ (fun k _ hk => if_pos (by
          apply Classical.byContradiction
          intro q2
          exact q ⟨k, by omega, q2⟩))
      have hp : ∃ y, y < 3024 ∧ g' y ≠ 0 := ⟨x, hx, by rw [d1 x hx, S_one hx]; decide⟩
      rcases room_L z1 z2 4 fu 1 rfl (by decide) (by rw [fu_s]; omega) with ⟨e7, hr⟩ | ⟨e7, j, j1, j4, hj⟩
      · have hr' : ∀ j, 1 ≤ j → j ≤ 4 → A j + B j ≤ 9 - j := hr
        have hb : b = true := by
          refine z5.mpr (fun z hz him => ?_)
          rw [hw z hz]
          refine sJ_zero _ _ (fun t _ ht => sJ_zero _ _ (fun u _ hu => ?_))
          have ht' : t < 3024 := by omega
          have hu' : u < 3024 := by omega
          unfold ptc
          by_cases c : wc t + wc u = z
          · rw [if_pos c]
            by_cases g0 : page t = 0
            · exact mul_z1 g0
            · by_cases p0 : g' u = 0
              · exact mul_z2 p0
              · exfalso
                have hin := room_in hA hB hr' ht' hu' g0 p0
                have := (room_eq hA hB hr' ht' hu' hin g0 p0).mpr rfl
                refine him (sg (t + u)) (sg_lt hin) ?_
                rw [wr_sg hin, ← this, c]
          · exact if_neg c
        obtain ⟨dr, e8, z6⟩ := product_2 draft page g'
        have hN : PR dr nx' := pr_of_sg (fun y hy => by
          rw [z6 y hy, z4 _ (sg_lt hy), wr_sg hy, hw _ (by have := wc_lt hy; have := wr_lt1 (sg_lt hy); rw [wr_sg hy] at this; exact this), room_sum hA hB hr' hy])
        have e7' : fX2_hasRoomFor tA tB = some (nI 1) := by
          simp only [fX2_hasRoomFor, i_lit]
          exact e7
        rcases take_both hN page sheet isP with ⟨n, pg, sh, y1, y2, y3, y4⟩ | ⟨y1, y2⟩
        · refine ⟨(nI n, q1, pg, tA, g', tB, c', w', nI x, dr, nI 0), (nI n, r', p', th', s', sh, nx', nI 0, wd'), ?_, ?_, rfl, hS', Or.inr (Or.inl ⟨y3, y4, rfl, rfl⟩)⟩
          · simp only [fX5_multiply, h1, bd_go, i_lit, e1, e3, e4, filled_2, e7', lend_3, e8, y1]
            rw [if_pos (nI_nn hx), if_neg hne, if_neg h10]
          · simp only [fX6_multiply, h2, h3, bd_go, i_lit, e2, e5, e6, hb, y2]
            rw [if_neg h10, if_neg h10, if_neg fB_n]
        · refine ⟨(-nI 5, q1, page, tA, g', tB, c', w', nI x, dr, nI 0), (-nI 5, r', p', th', s', sheet, nx', isP, wd'), ?_, ?_, rfl, hS', ShOk.no⟩
          · simp only [fX5_multiply, h1, bd_go, i_lit, e1, e3, e4, filled_2, e7', lend_3, e8, y1]
            rw [if_pos (nI_nn hx), if_neg hne, if_neg h10]
          · simp only [fX6_multiply, h2, h3, bd_go, i_lit, e2, e5, e6, hb, y2]
            rw [if_neg h10, if_neg h10, if_neg fB_n]
      · have e7' : fX2_hasRoomFor tA tB = some (nI 0) := by
          simp only [fX2_hasRoomFor, i_lit]
          exact e7
        obtain ⟨u, v, hu, hv, gu, pv_, xu, xv, hsum⟩ := lead hA hB hg hp j1 j4
        have hb : b = false := by
          cases b with
          | false => rfl
          | true =>
            exfalso
            have hz0 : wc u + wc v < 36465 := by
              have := wr_lt (sg_lt hu) (sg_lt hv)
              rw [wr_sg hu, wr_sg hv] at this
              exact this
            have := z5.mp rfl (wc u + wc v) hz0 (fun y hy e => by
              obtain ⟨t, ht, et, _⟩ := sg_onto hy
              rw [← et, wr_sg ht] at e
              have q := wc_one hu hv ht e.symm
              have bt := xc_le ht j1 (by omega)
              rcases (show j = 1 ∨ j = 2 ∨ j = 3 ∨ j = 4 by omega) with rfl | rfl | rfl | rfl
              · omega
              · omega
              · omega
              · omega)
            rw [hw _ hz0, hsum] at this
            exact mul_ne (Bd_lim (hL u hu)) (by rw [d1 v hv]; exact Bd_S hv) gu pv_ this
        refine ⟨(-nI 5, q1, page, tA, g', tB, c', w', nI x, draft, known), (-nI 5, r', p', th', s', sheet, nx', isP, wd'), ?_, ?_, rfl, hS', ShOk.rf⟩
        · simp only [fX5_multiply, h1, bd_go, i_lit, e1, e3, e4, filled_2, e7']
          rw [if_pos (nI_nn hx), if_neg hne, if_pos trivial]
        · simp only [fX6_multiply, h2, h3, bd_go, i_lit, e2, e5, e6, hb]
          rw [if_neg h10, if_neg h10, if_pos fB_f]
