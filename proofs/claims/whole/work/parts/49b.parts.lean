/-! ===== parts: both find the one expansion ===== -/
theorem find_L {page : Nat → Int64} {known : Int32} : ∀ (m fl : Nat) (C : Nat → Int64) (f : Nat → Int32) (n : Nat) (A : Nat → Prop) (g : Nat → Int64) (top code way : Nat → Int32) (made : Int32) (row : Nat → Int32), m ≤ 3024 → m < fl → n + m ≤ 3024 → SingleOk g made → (∀ y, A y → m ≤ y) → SrT f (fun _ => 0) n A (fun _ => 0) → ∃ (C' : Nat → Int64) (f' : Nat → Int32) (n' : Nat) (g' : Nat → Int64) (top' code' way' : Nat → Int32) (made' : Int32) (row' : Nat → Int32), fX3_find_L28 page fl C f (nI n) known g top code way made row (nI m + -nI 1) = some (C', f', nI n', nI 1, g', top', code', way', made', row') ∧ n' ≤ 3024 ∧ SingleOk g' made' ∧ (∀ y, m ≤ y → C' y = C y) ∧ (∀ y, y < m → C y = C' y + sJ (fun x => C' x * SS (xc x) y) (y + 1) (m - 1 - y)) ∧ SrT f' (fun _ => 0) n' (fun y => A y ∨ (y < m ∧ C' y ≠ 0)) (fun _ => 0) := by
  intro m
  induction m with
  | zero =>
    intro fl C f n A g top code way made row hm hf hn hS hA hL
    obtain ⟨fl, rfl⟩ : ∃ q, fl = q + 1 := ⟨fl - 1, by omega⟩
    refine ⟨C, f, n, g, top, code, way, made, row, ?_, by omega, hS, fun _ _ => rfl, fun y hy => by omega, hL.congr (fun y _ => ⟨Or.inl, fun q => ?_⟩) (fun _ _ _ => rfl)⟩
    · simp only [fX3_find_L28, i_lit]
      rw [if_pos m1_neg]
    · rcases q with q | q
      · exact q
      · omega
  | succ m ih =>
    intro fl C f n A g top code way made row hm hf hn hS hA hL
    obtain ⟨fl, rfl⟩ : ∃ q, fl = q + 1 := ⟨fl - 1, by omega⟩
    have hml : m < 3024 := by omega
    rw [nI_dec (by omega), show m + 1 - 1 = m by omega]
    by_cases h0 : C m = 0
    · obtain ⟨C', f', n', g', t', c', w', md, r', e, b1, b2, b3, b4, b5⟩ := ih fl C f n A g top code way made row (by omega) (by omega) (by omega) hS (fun y hy => by have := hA y hy; omega) hL
      have hCm : C' m = C m := b3 m (Nat.le_refl _)
      refine ⟨C', f', n', g', t', c', w', md, r', ?_, b1, b2, fun y hy => b3 y (by omega), fun y hy => ?_, b5.congr (fun y _ => ?_) (fun _ _ _ => rfl)⟩
      · simp only [fX3_find_L28, i_lit, at_n hml, bd_go, nmE]
        rw [if_neg (nI_nl hml), if_pos ((lgz _).mpr h0)]
        exact e
      · by_cases c : y = m
        · rw [c, show m - m = 0 by omega, hCm]
          simp only [sJ]
          grind
        · rw [show m - y = (m - 1 - y) + 1 by omega, sJ_last, show y + 1 + (m - 1 - y) = m by omega, hCm, h0, b4 y (by omega)]
          grind
      · constructor
        · rintro (q | ⟨q1, q2⟩)
          · exact Or.inl q
          · exact Or.inr ⟨by omega, q2⟩
        · rintro (q | ⟨q1, q2⟩)
          · exact Or.inl q
          · by_cases c : y = m
            · rw [c, hCm, h0] at q2; exact absurd rfl q2
            · exact Or.inr ⟨by omega, q2⟩
    · obtain ⟨g1, t1, c1, w1, e1, d1⟩ := make_4 hS top code way hml
      obtain ⟨C1, e2, d2⟩ := addTimes_2 C g1 (-C m) (by omega : m ≤ 3024)
      obtain ⟨r1, e3, d3⟩ := becomeOfCode_1 row (p1 := nI m) (xc9 hml) (fun i i1 i9 => exponentAt_5 hml i1 i9)
      have e4 : fX1_plainNumber r1 = some (nI (pl m)) := plainNumber_1 d3
      obtain ⟨f1, e5, d5⟩ := put_new hL (by omega : n < 3024) hml (fun q => by have := hA m q; omega)
      obtain ⟨C', f', n', g', t', c', w', md, r', e, b1, b2, b3, b4, b5⟩ := ih fl C1 f1 (n + 1) (fun y => A y ∨ y = m) g1 t1 c1 w1 (nI m) r1 (by omega) (by omega) (by omega) (Or.inr ⟨m, hml, rfl, d1⟩) (fun y hy => by
        rcases hy with hy | hy
        · have := hA y hy; omega
        · omega) d5
      have hCm : C' m = C m := by rw [b3 m (Nat.le_refl _), d2 m, if_neg (Nat.lt_irrefl _)]
      refine ⟨C', f', n', g', t', c', w', md, r', ?_, b1, b2, fun y hy => by rw [b3 y (by omega), d2 y, if_neg (by omega)], fun y hy => ?_, b5.congr (fun y _ => ?_) (fun _ _ _ => rfl)⟩
      · simp only [fX3_find_L28, i_lit, at_n hml, bd_go, nmE, e1, e2, e3, e4, e5]
        rw [if_neg (nI_nl hml), if_neg (fun q => h0 ((lgz _).mp q))]
        exact e
      · by_cases c : y = m
        · rw [c, show m - m = 0 by omega, hCm]
          simp only [sJ]
          grind
        · have q := b4 y (by omega)
          rw [d2 y, if_pos (by omega), d1 y (by omega)] at q
          rw [show m - y = (m - 1 - y) + 1 by omega, sJ_last, show y + 1 + (m - 1 - y) = m by omega, hCm]
          grind
      · constructor
        · rintro ((q | q) | ⟨q1, q2⟩)
          · exact Or.inl q
          · exact Or.inr ⟨by omega, by rw [q, hCm]; exact h0⟩
          · exact Or.inr ⟨by omega, q2⟩
        · rintro (q | ⟨q1, q2⟩)
          · exact Or.inl (Or.inl q)
          · by_cases c : y = m
            · exact Or.inl (Or.inr c)
            · exact Or.inr ⟨by omega, q2⟩
/-- what the class knows of its parts -/
def PtC (page counts : Nat → Int64) (items : Nat → Int32) (size known : Int32) : Prop := known = nI 0 ∨ known = nI 1 ∧ ∃ (E : Nat → Int64) (n : Nat), Exp page E ∧ (∀ y, y < 3024 → counts y = E y) ∧ size = nI n ∧ n ≤ 3024 ∧ SrT items (fun _ => 0) n (fun c => E c ≠ 0) (fun _ => 0)
/-- what the reference knows of them -/
def PtR (page : Nat → Int64) (isP parts : Int32) (partOf : Nat → Int32) (partTimes : Nat → Int64) : Prop := isP = nI 0 ∨ isP = nI 1 ∧ ∃ (E : Nat → Int64) (n : Nat), Exp page E ∧ parts = nI n ∧ n ≤ 3024 ∧ SrT partOf partTimes n (fun c => E c ≠ 0) E
theorem find_3 {page counts : Nat → Int64} {items : Nat → Int32} {size known : Int32} (h : PtC page counts items size known) {g : Nat → Int64} {made : Int32} (hS : SingleOk g made) (top code way row : Nat → Int32) : ∃ (counts' : Nat → Int64) (items' : Nat → Int32) (n : Nat) (g' : Nat → Int64) (top' code' way' : Nat → Int32) (made' : Int32) (row' : Nat → Int32) (E : Nat → Int64), fX3_find counts items size known page g top code way made row = some (counts', items', nI n, nI 1, g', top', code', way', made', row') ∧ SingleOk g' made' ∧ Exp page E ∧ (∀ y, y < 3024 → counts' y = E y) ∧ n ≤ 3024 ∧ SrT items' (fun _ => 0) n (fun c => E c ≠ 0) (fun _ => 0) := by
  rcases h with rfl | ⟨rfl, E, n, h1, h2, rfl, h4, h5⟩
  · obtain ⟨C, e1, d1⟩ := copy_2 counts page
    obtain ⟨C', f', n', g', t', c', w', md, r', e, b1, b2, b3, b4, b5⟩ := find_L (page := page) (known := nI 0) 3024 fu C items 0 (fun _ => False) g top code way made row (Nat.le_refl _) (by rw [fu_s]; omega) (by omega) hS (fun y q => q.elim) (SrT_0 _ _ (fun _ _ q => q) _)
    have e' : nI 3023 = nI 3024 + -nI 1 := by decide
    refine ⟨C', f', n', g', t', c', w', md, r', C', ?_, b2, fun z hz => ?_, fun _ _ => rfl, b1, b5.congr (fun y hy => ⟨fun q => ?_, fun q => Or.inr ⟨hy, q⟩⟩) (fun _ _ _ => rfl)⟩
    · simp only [fX3_find, i_lit, e1, bd_go, fX0_clear]
      rw [if_pos trivial, e']
      exact e
    · rw [exp_top hz, ← d1 z hz, b4 z hz]
    · rcases q with q | q
      · exact q.elim
      · exact q.2
  · refine ⟨counts, items, n, g, top, code, way, made, row, E, ?_, hS, h1, h2, h4, h5⟩
    simp only [fX3_find, i_lit]
    rw [if_neg (by decide : ¬ nI 1 = nI 0)]
/-! the reference -/
theorem fp_L105 {sheet : Nat → Int64} {rec : (Nat → Int32) → (Nat → Int64) → (Nat → Int64) → (Nat → Int32) → (Nat → Int64) → Int32 → Int32 → (Nat → Int32) → (Nat → Int64) → Int32 → Option ((Nat → Int32) × (Nat → Int64) × (Nat → Int64) × (Nat → Int32) × (Nat → Int64) × Int32 × Int32 × (Nat → Int32) × (Nat → Int64))} {other steps partOf : Nat → Int32} {poly th partTimes : Nat → Int64} {isP parts : Int32} {x : Nat} {T : Int64} : ∀ (n fl y : Nat) (next : Nat → Int64), y + n = 3024 → n < fl → ∃ next', fX6_findParts_L105 sheet rec fl other poly th steps next isP parts partOf partTimes (nI x) T (nI y) = rec other poly th steps next' isP parts partOf partTimes (nI (x + 1)) ∧ ∀ z, next' z = if y ≤ z ∧ z < 3024 then next z - T * poly z else next z := by
  intro n
  induction n with
  | zero =>
    intro fl y next hy hf
    obtain ⟨fl, rfl⟩ : ∃ q, fl = q + 1 := ⟨fl - 1, by omega⟩
    refine ⟨next, ?_, fun z => by rw [if_neg (by omega)]⟩
    simp only [fX6_findParts_L105, i_lit, nmE, nI_add]
    rw [if_pos ((nI_leI (by omega) (by omega)).mpr (by omega))]
  | succ n ih =>
    intro fl y next hy hf
    obtain ⟨fl, rfl⟩ : ∃ q, fl = q + 1 := ⟨fl - 1, by omega⟩
    obtain ⟨n', e1, e2⟩ := ih fl (y + 1) (vp_updL next y (next y - T * poly y)) (by omega) (by omega)
    refine ⟨n', ?_, fun z => ?_⟩
    · simp only [fX6_findParts_L105, i_lit, nmE, nI_add]
      rw [if_neg (fun q => by rw [nI_leI (by omega) (by omega)] at q; omega), gJ_at (by omega) (by decide), gJ_at (by omega) (by decide), pJ_at (by omega) (by decide)]
      exact e1
    · rw [e2 z, updL_at]
      by_cases c : z = y
      · rw [c, if_neg (by omega), if_pos rfl, if_pos (by omega)]
      · rw [if_neg c]
        by_cases c2 : y + 1 ≤ z ∧ z < 3024
        · rw [if_pos c2, if_pos (by omega)]
        · rw [if_neg c2, if_neg (by omega)]
def Rz (E : Nat → Int64) (z y : Nat) : Int64 := E y * SS (xc (gs y)) (gs z)
theorem fp_L34 {sheet : Nat → Int64} {isP : Int32} : ∀ (m fl x : Nat) (other : Nat → Int32) (poly th : Nat → Int64) (steps : Nat → Int32) (next : Nat → Int64) (n : Nat) (f : Nat → Int32) (t : Nat → Int64) (A : Nat → Prop) (Et : Nat → Int64), x + m = 3024 → m < fl → n ≤ x → (∀ c, c < 3024 → A c → sg c < x) → SrT f t n A Et → ∃ (E : Nat → Int64) (other' : Nat → Int32) (poly' th' : Nat → Int64) (steps' : Nat → Int32) (next' : Nat → Int64) (n' : Nat) (f' : Nat → Int32) (t' : Nat → Int64), fX6_findParts_L34 sheet fl other poly th steps next isP (nI n) f t (nI x) = some (other', poly', th', steps', next', nI 1, nI n', f', t') ∧ n' ≤ 3024 ∧ (∀ z, x ≤ z → z < 3024 → next z = E z + sJ (Rz E z) x (z - x)) ∧ SrT f' t' n' (fun c => A c ∨ (x ≤ sg c ∧ E (sg c) ≠ 0)) (fun c => if sg c < x then Et c else E (sg c)) := by
  intro m
  induction m with
  | zero =>
    intro fl x other poly th steps next n f t A Et hx hf hn hA hL
    obtain ⟨fl, rfl⟩ : ∃ q, fl = q + 1 := ⟨fl - 1, by omega⟩
    refine ⟨fun _ => 0, other, poly, th, steps, next, n, f, t, ?_, by omega, fun z z1 z2 => by omega, hL.congr (fun c _ => ⟨Or.inl, fun q => ?_⟩) (fun c hc hAc => ?_)⟩
    · simp only [fX6_findParts_L34, i_lit]
      rw [if_pos ((nI_leI (by omega) (by omega)).mpr (by omega))]
    · rcases q with q | ⟨_, q⟩
      · exact q
      · exact absurd rfl q
    · show Et c = if sg c < x then Et c else 0
      rw [if_pos (hA c hc hAc)]
  | succ m ih =>
    intro fl x other poly th steps next n f t A Et hx hf hn hA hL
    obtain ⟨fl, rfl⟩ : ∃ q, fl = q + 1 := ⟨fl - 1, by omega⟩
    have hxl : x < 3024 := by omega
    have hgx := gs_lt hxl
    have hsx := sg_gs hxl
    by_cases h0 : next x = 0
    · obtain ⟨E0, o', p', t1, s', n1, k, f', t', e, b1, b2, b3⟩ := ih fl (x + 1) other poly th steps next n f t A Et (by omega) (by omega) (by omega) (fun c hc q => by have := hA c hc q; omega) hL
      have hE : ∀ y, x + 1 ≤ y → (if y = x then 0 else E0 y) = E0 y := fun y hy => if_neg (by omega)
      refine ⟨fun y => if y = x then 0 else E0 y, o', p', t1, s', n1, k, f', t', ?_, b1, fun z z1 z2 => ?_, b3.congr (fun c hc => ?_) (fun c hc q => ?_)⟩
      · simp only [fX6_findParts_L34, i_lit, nmE, nI_add]
        rw [if_neg (fun q => by rw [nI_leI (by omega) (by omega)] at q; omega), gJ_at hxl (by decide), if_pos ((lgz _).mpr h0)]
        exact e
      · by_cases c : z = x
        · dsimp only
          rw [c, show x - x = 0 by omega, h0, if_pos rfl]
          simp only [sJ]
          grind
        · dsimp only
          rw [show z - x = (z - (x + 1)) + 1 by omega, if_neg c]
          simp only [sJ]
          rw [sJ_congr (g := Rz E0 z) (z - (x + 1)) (x + 1) (fun y y1 _ => by
            unfold Rz
            dsimp only
            rw [hE y y1]), b2 z (by omega) z2]
          unfold Rz
          dsimp only
          rw [if_pos rfl]
          grind
      · show (A c ∨ (x + 1 ≤ sg c ∧ E0 (sg c) ≠ 0)) ↔ (A c ∨ (x ≤ sg c ∧ (if sg c = x then 0 else E0 (sg c)) ≠ 0))
        constructor
        · rintro (q | ⟨q1, q2⟩)
          · exact Or.inl q
          · exact Or.inr ⟨by omega, by rw [hE _ q1]; exact q2⟩
        · rintro (q | ⟨q1, q2⟩)
          · exact Or.inl q
          · by_cases c2 : sg c = x
            · rw [if_pos c2] at q2; exact absurd rfl q2
            · rw [if_neg c2] at q2
              exact Or.inr ⟨by omega, q2⟩
      · show (if sg c < x + 1 then Et c else E0 (sg c)) = if sg c < x then Et c else (if sg c = x then 0 else E0 (sg c))
        rcases q with q | ⟨q1, _⟩
        · have := hA c hc q
          rw [if_pos (by omega), if_pos this]
        · rw [if_neg (by omega), if_neg (by omega), if_neg (by omega)]
    · obtain ⟨T, hT⟩ : ∃ T, T = next x := ⟨_, rfl⟩
      obtain ⟨x1, x2, x3, x4⟩ := xc_gs hxl
      obtain ⟨r1, e1, d1⟩ := laysCode_6 other (c := xc (gs x)) (xc9 hgx) (fun i i5 _ => xc_5 i5)
      rw [x1, x2, x3, x4] at e1
      have e2 : fX6_plainOf r1 = some (nI (pl (gs x))) := plainOf_6 d1
      have hL1 : SrT f t n A (fun c => if c = gs x then T else Et c) := hL.congr (fun c _ => Iff.rfl) (fun c hc q => by
        have := hA c hc q
        show Et c = if c = gs x then T else Et c
        rw [if_neg (fun q2 => by rw [q2, hsx] at this; omega)])
      obtain ⟨f1, t1, e3, d3⟩ := adds_new hL1 (by omega : n < 3024) hgx (fun q => by have := hA _ hgx q; omega)
      have e3' : fX6_adds (nI n) f t (nI (pl (gs x))) T = some (nI (n + 1), f1, t1) := by
        rw [if_pos rfl] at e3
        exact e3
      obtain ⟨p1, th1, s1, r2, e4, d4⟩ := findS_6 poly th steps d1 (c := xc (gs x)) (fun j j1 j4 => code_opm (xc9 hgx) j j1 (by omega))
      obtain ⟨nx, e5, d5⟩ := fp_L105 (sheet := sheet) (rec := fX6_findParts_L34 sheet fl) (other := r2) (steps := s1) (partOf := f1) (poly := p1) (th := th1) (partTimes := t1) (isP := isP) (parts := nI (n + 1)) (x := x) (T := T) (3024 - x) fu x next (by omega) (by rw [fu_s]; omega)
      have hp1 : ∀ z, z < 3024 → p1 z = SS (xc (gs x)) (gs z) := fun z hz => by
        rw [pr_sg d4 (gs_lt hz), sg_gs hz]
      obtain ⟨E0, o', p', t2, s', n1, k, f', t', e, b1, b2, b3⟩ := ih fl (x + 1) r2 p1 th1 s1 nx (n + 1) f1 t1 (fun y => A y ∨ y = gs x) (fun c => if c = gs x then T else Et c) (by omega) (by omega) (by omega) (fun c hc q => by
        rcases q with q | q
        · have := hA c hc q; omega
        · rw [q, hsx]; omega) d3
      have hE : ∀ y, x + 1 ≤ y → (if y = x then T else E0 y) = E0 y := fun y hy => if_neg (by omega)
      refine ⟨fun y => if y = x then T else E0 y, o', p', t2, s', n1, k, f', t', ?_, b1, fun z z1 z2 => ?_, b3.congr (fun c hc => ?_) (fun c hc q => ?_)⟩
      · have c1 : ¬ nI 3024 ≤ nI x := fun q => by rw [nI_leI (by omega) (by omega)] at q; omega
        have c2 : ¬ lg_cmp (next x) 0 = nI 0 := fun q => h0 ((lgz _).mp q)
        rw [fX6_findParts_L34]
        simp only [i_lit]
        rw [if_neg c1, gJ_at hxl (by decide), nmE, if_neg c2, exponentAt_6 hxl (by decide) (by decide), bd_some, exponentAt_6 hxl (by decide) (by decide), bd_some, exponentAt_6 hxl (by decide) (by decide), bd_some, exponentAt_6 hxl (by decide) (by decide), bd_some, e1, bd_some, e2, bd_some, ← hT, e3', bd_some, e4, bd_some]
        rw [e5]
        exact e
      · by_cases c : z = x
        · dsimp only
          rw [c, show x - x = 0 by omega, if_pos rfl, hT]
          simp only [sJ]
          grind
        · have q := b2 z (by omega) z2
          rw [d5 z, if_pos (by omega), hp1 z z2] at q
          dsimp only
          rw [show z - x = (z - (x + 1)) + 1 by omega, if_neg c]
          simp only [sJ]
          rw [sJ_congr (g := Rz E0 z) (z - (x + 1)) (x + 1) (fun y y1 _ => by
            unfold Rz
            dsimp only
            rw [hE y y1])]
          rw [show Rz (fun y => if y = x then T else E0 y) z x = T * SS (xc (gs x)) (gs z) by unfold Rz; dsimp only; rw [if_pos rfl]]
          grind
      · show ((A c ∨ c = gs x) ∨ (x + 1 ≤ sg c ∧ E0 (sg c) ≠ 0)) ↔ (A c ∨ (x ≤ sg c ∧ (if sg c = x then T else E0 (sg c)) ≠ 0))
        constructor
        · rintro ((q | q) | ⟨q1, q2⟩)
          · exact Or.inl q
          · exact Or.inr ⟨by rw [q, hsx]; exact Nat.le_refl _, by rw [q, hsx, if_pos rfl, hT]; exact h0⟩
          · exact Or.inr ⟨by omega, by rw [hE _ q1]; exact q2⟩
        · rintro (q | ⟨q1, q2⟩)
          · exact Or.inl (Or.inl q)
          · by_cases c2 : sg c = x
            · exact Or.inl (Or.inr (by rw [← c2, gs_sg hc]))
            · rw [if_neg c2] at q2
              exact Or.inr ⟨by omega, q2⟩
      · show (if sg c < x + 1 then (if c = gs x then T else Et c) else E0 (sg c)) = if sg c < x then Et c else (if sg c = x then T else E0 (sg c))
        rcases q with (q | q) | ⟨q1, _⟩
        · have := hA c hc q
          rw [if_pos (by omega), if_pos this, if_neg (fun q2 => by rw [q2, hsx] at this; omega)]
        · rw [q, hsx, if_pos (by omega), if_pos rfl, if_neg (by omega), if_pos rfl]
        · rw [if_neg (by omega), if_neg (by omega), if_neg (by omega)]
theorem fp_L7 {sheet : Nat → Int64} {isP parts : Int32} {other steps partOf : Nat → Int32} {poly th partTimes : Nat → Int64} : ∀ (n fl x : Nat) (next : Nat → Int64), x + n = 3024 → n < fl → (∀ y, y < x → next y = sheet y) → ∃ next', fX6_findParts_L7 sheet fl other poly th steps next isP parts partOf partTimes (nI x) = fX6_findParts_L34 sheet fu other poly th steps next' isP parts partOf partTimes (nI 0) ∧ ∀ y, y < 3024 → next' y = sheet y := by
  intro n
  induction n with
  | zero =>
    intro fl x next hx hf h
    obtain ⟨fl, rfl⟩ : ∃ q, fl = q + 1 := ⟨fl - 1, by omega⟩
    refine ⟨next, ?_, fun y hy => h y (by omega)⟩
    simp only [fX6_findParts_L7, i_lit]
    rw [if_pos ((nI_leI (by omega) (by omega)).mpr (by omega))]
  | succ n ih =>
    intro fl x next hx hf h
    obtain ⟨fl, rfl⟩ : ∃ q, fl = q + 1 := ⟨fl - 1, by omega⟩
    obtain ⟨n', e1, e2⟩ := ih fl (x + 1) (vp_updL next x (sheet x)) (by omega) (by omega) (fun y hy => by
      rw [updL_at]
      by_cases c : y = x
      · rw [if_pos c, c]
      · rw [if_neg c]; exact h y (by omega))
    refine ⟨n', ?_, e2⟩
    simp only [fX6_findParts_L7, i_lit, nmE, nI_add]
    rw [if_neg (fun q => by rw [nI_leI (by omega) (by omega)] at q; omega), gJ_at (by omega) (by decide), pJ_at (by omega) (by decide)]
    exact e1
theorem knows_6 {page sheet : Nat → Int64} (hP : PR page sheet) {isP parts : Int32} {partOf : Nat → Int32} {partTimes : Nat → Int64} (h : PtR page isP parts partOf partTimes) (other : Nat → Int32) (poly th : Nat → Int64) (steps : Nat → Int32) (next : Nat → Int64) : ∃ (other' : Nat → Int32) (poly' th' : Nat → Int64) (steps' : Nat → Int32) (next' : Nat → Int64) (n : Nat) (partOf' : Nat → Int32) (partTimes' : Nat → Int64) (E : Nat → Int64), fX6_knowsParts other poly th steps sheet next isP parts partOf partTimes = some (other', poly', th', steps', next', nI 1, nI n, partOf', partTimes') ∧ Exp page E ∧ n ≤ 3024 ∧ SrT partOf' partTimes' n (fun c => E c ≠ 0) E := by
  rcases h with rfl | ⟨rfl, E, n, h1, rfl, h3, h4⟩
  · obtain ⟨nx, e1, d1⟩ := fp_L7 (sheet := sheet) (isP := nI 0) (parts := nI 0) (other := other) (steps := steps) (partOf := partOf) (poly := poly) (th := th) (partTimes := partTimes) 3024 fu 0 next rfl (by rw [fu_s]; omega) (fun y hy => by omega)
    obtain ⟨E, o', p', t', s', n', k, f', tt, e2, b1, b2, b3⟩ := fp_L34 (sheet := sheet) (isP := nI 0) 3024 fu 0 other poly th steps nx 0 partOf partTimes (fun _ => False) (fun _ => 0) rfl (by rw [fu_s]; omega) (Nat.le_refl _) (fun _ _ q => q.elim) (SrT_0 _ _ (fun _ _ q => q) _)
    have e3 : fX6_findParts other poly th steps sheet next (nI 0) parts partOf partTimes = some (o', p', t', s', n', nI 1, nI k, f', tt) := by
      simp only [fX6_findParts, i_lit]
      exact e1.trans e2
    refine ⟨o', p', t', s', n', k, f', tt, fun c => E (sg c), ?_, ?_, b1, b3.congr (fun c hc => ⟨fun q => ?_, fun q => Or.inr ⟨Nat.zero_le _, q⟩⟩) (fun c _ _ => if_neg (Nat.not_lt_zero _))⟩
    · simp only [fX6_knowsParts, i_lit, e3, bd_go]
      rw [if_pos trivial]
    · refine exp_ref hP (fun z hz => ?_)
      rw [← d1 z hz, b2 z (Nat.zero_le _) hz]
      rfl
    · rcases q with q | q
      · exact q.elim
      · exact q.2
  · refine ⟨other, poly, th, steps, next, n, partOf, partTimes, E, ?_, h1, h3, h4⟩
    simp only [fX6_knowsParts, i_lit]
    rw [if_neg (by decide : ¬ nI 1 = nI 0)]
