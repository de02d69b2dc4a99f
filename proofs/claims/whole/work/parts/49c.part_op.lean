/-! ===== part, times ===== -/
theorem answer_k {f g : Nat → Int32} {n : Nat} (hn : n ≤ 3024) (h : ∀ j, j < n → f j = g j) {k : Nat} (hk : k < 2 ^ 31) : (k < n ∧ fX0_answer 3024 f (nI n) (nI k) = some (g k)) ∨ (n ≤ k ∧ fX0_answer 3024 f (nI n) (nI k) = some (-nI 9)) := by
  simp only [fX0_answer, i_lit, show Int32.ofNat 3024 = nI 3024 from rfl]
  rw [if_neg (nI_ne_m1 hk), if_neg (fun q => by rw [nI_ltI hk (by omega)] at q; omega)]
  by_cases c : n ≤ k
  · exact Or.inr ⟨c, by rw [if_pos ((nI_leI (by omega) hk).mpr c)]⟩
  · refine Or.inl ⟨by omega, ?_⟩
    rw [if_neg (fun q => by rw [nI_leI (by omega) hk] at q; omega), if_neg (fun q => by rw [nI_leI (by omega) hk] at q; omega), gI_at (by omega) (by decide), h k (by omega)]
theorem answer_m1 (f : Nat → Int32) (s : Int32) : fX0_answer 3024 f s (-nI 1) = some s := by
  simp only [fX0_answer, i_lit]
  rw [if_pos trivial]
/-- what a call leaves of the parts -/
def PtOk (page : Nat → Int64) (g : Nat → Int64) (made : Int32) (counts : Nat → Int64) (items : Nat → Int32) (size known isP parts : Int32) (partOf : Nat → Int32) (partTimes : Nat → Int64) : Prop := SingleOk g made ∧ PtC page counts items size known ∧ PtR page isP parts partOf partTimes
theorem oq_part {page sheet g counts : Nat → Int64} {items : Nat → Int32} {size known made isP parts : Int32} {partOf : Nat → Int32} {partTimes : Nat → Int64} (hP : PR page sheet) (hO : PtOk page g made counts items size known isP parts partOf partTimes) (k1 top code way other : Nat → Int32) (poly th : Nat → Int64) (steps : Nat → Int32) (next : Nat → Int64) (a1 : Int32) : ∃ (r5 : Int32 × (Nat → Int32) × (Nat → Int64) × (Nat → Int32) × (Nat → Int32) × (Nat → Int32) × Int32 × (Nat → Int64) × (Nat → Int32) × Int32 × Int32) (r6 : Int32 × (Nat → Int32) × (Nat → Int64) × (Nat → Int64) × (Nat → Int32) × (Nat → Int64) × Int32 × Int32 × (Nat → Int32) × (Nat → Int64)), fX5_part k1 page g top code way made counts items size known a1 = some r5 ∧ fX6_part other poly th steps sheet next isP parts partOf partTimes a1 = some r6 ∧ r5.1 = r6.1 ∧ PtOk page r5.2.2.1 r5.2.2.2.2.2.2.1 r5.2.2.2.2.2.2.2.1 r5.2.2.2.2.2.2.2.2.1 r5.2.2.2.2.2.2.2.2.2.1 r5.2.2.2.2.2.2.2.2.2.2 r6.2.2.2.2.2.2.1 r6.2.2.2.2.2.2.2.1 r6.2.2.2.2.2.2.2.2.1 r6.2.2.2.2.2.2.2.2.2 := by
  by_cases hk : -nI 1 ≤ a1
  · obtain ⟨hS, hC, hR⟩ := hO
    obtain ⟨c1, i1, n1, g1, t1, co1, w1, m1, r1, E1, e1, x1, x2, x3, x4, x5⟩ := find_3 hC hS top code way k1
    obtain ⟨o2, p2, t2, s2, nx2, n2, f2, tm2, E2, e2, y1, y2, y3⟩ := knows_6 hP hR other poly th steps next
    have hE := exp_uniq x2 y1
    obtain ⟨hn, hf⟩ := SrT_uniq x5 y3 (fun c hc => by rw [hE c hc])
    subst hn
    have hO' : PtOk page g1 m1 c1 i1 (nI n1) (nI 1) (nI 1) (nI n1) f2 tm2 := ⟨x1, Or.inr ⟨rfl, E1, n1, x2, x3, rfl, x4, x5⟩, Or.inr ⟨rfl, E2, n1, y1, rfl, y2, y3⟩⟩
    rcases i_m1 a1 with q | rfl | ⟨k, hk2, rfl⟩
    · exact absurd hk q
    · refine ⟨(nI n1, r1, g1, t1, co1, w1, m1, c1, i1, nI n1, nI 1), (nI n1, o2, p2, t2, s2, nx2, nI 1, nI n1, f2, tm2), ?_, ?_, rfl, hO'⟩
      · simp only [fX5_part, i_lit, e1, bd_go, answer_m1]
        rw [if_pos hk]
      · simp only [fX6_part, i_lit, e2, bd_go]
        rw [if_pos hk, if_pos trivial]
    · rcases answer_k x4 hf hk2 with ⟨c, e3⟩ | ⟨c, e3⟩
      · refine ⟨(f2 k, r1, g1, t1, co1, w1, m1, c1, i1, nI n1, nI 1), (f2 k, o2, p2, t2, s2, nx2, nI 1, nI n1, f2, tm2), ?_, ?_, rfl, hO'⟩
        · simp only [fX5_part, i_lit, e1, bd_go, e3]
          rw [if_pos hk]
        · simp only [fX6_part, i_lit, e2, bd_go]
          rw [if_pos hk, if_neg (nI_ne_m1 hk2), if_neg (fun q => by rw [nI_leI (by omega) hk2] at q; omega), gI_at (by omega) (by decide)]
      · refine ⟨(-nI 9, r1, g1, t1, co1, w1, m1, c1, i1, nI n1, nI 1), (-nI 9, o2, p2, t2, s2, nx2, nI 1, nI n1, f2, tm2), ?_, ?_, rfl, hO'⟩
        · simp only [fX5_part, i_lit, e1, bd_go, e3]
          rw [if_pos hk]
        · simp only [fX6_part, i_lit, e2, bd_go]
          rw [if_pos hk, if_neg (nI_ne_m1 hk2), if_pos ((nI_leI (by omega) hk2).mpr c)]
  · refine ⟨(-nI 2, k1, g, top, code, way, made, counts, items, size, known), (-nI 2, other, poly, th, steps, next, isP, parts, partOf, partTimes), ?_, ?_, rfl, hO⟩
    · simp only [fX5_part, i_lit]
      rw [if_neg hk]
    · simp only [fX6_part, i_lit]
      rw [if_neg hk]
theorem times_L {sheet : Nat → Int64} {p1 isP : Int32} {one other steps f : Nat → Int32} {poly th next t : Nat → Int64} {n : Nat} {E : Nat → Int64} {F : Nat → Nat} (hF : SrF f t n (fun c => E c ≠ 0) E F) (hn : n ≤ 3024) {x : Nat} (hx : x < 3024) : ∀ (m fl k : Nat), k + m = n → m < fl → (∀ i, i < k → F i ≠ pl x) → fX6_times_L39 sheet p1 fl one other poly th steps next isP (nI n) f t (nI (pl x)) (nI k) = some (E x, one, other, poly, th, steps, next, isP, nI n, f, t) := by
  have hpx := pl_lt hx
  intro m
  induction m with
  | zero =>
    intro fl k hk hf h
    obtain ⟨fl, rfl⟩ : ∃ q, fl = q + 1 := ⟨fl - 1, by omega⟩
    have hE : E x = 0 := by
      apply Classical.byContradiction
      intro q
      obtain ⟨j, j1, j2⟩ := hF.2.2.2 x hx q
      exact h j (by omega) j2
    simp only [fX6_times_L39]
    rw [if_pos ((nI_leI (by omega) (by omega)).mpr (by omega)), hE]
  | succ m ih =>
    intro fl k hk hf h
    obtain ⟨fl, rfl⟩ : ∃ q, fl = q + 1 := ⟨fl - 1, by omega⟩
    have hkn : k < n := by omega
    have hFk := hF.lt hkn
    simp only [fX6_times_L39, i_lit, nmE, nI_add]
    rw [if_neg (fun q => by rw [nI_leI (by omega) (by omega)] at q; omega), gI_at (by omega) (by decide), hF.1 k hkn]
    by_cases c : F k = pl x
    · rw [if_pos (by rw [c]), gJ_at (by omega) (by decide)]
      obtain ⟨y, y1, _, y3, y4⟩ := hF.2.2.1 k hkn
      have := pl_inj y1 hx (y3.symm.trans c)
      rw [y4, this]
    · rw [if_neg (fun q => c ((nI_eq (by omega) (by omega)).mp q))]
      exact ih fl (k + 1) (by omega) (by omega) (fun i hi => by
        by_cases e : i = k
        · rw [e]; exact c
        · exact h i (by omega))
theorem oq_times {page sheet g counts : Nat → Int64} {items : Nat → Int32} {size known made isP parts : Int32} {partOf : Nat → Int32} {partTimes : Nat → Int64} (hP : PR page sheet) (hO : PtOk page g made counts items size known isP parts partOf partTimes) (k1 top code way k2 other : Nat → Int32) (poly th : Nat → Int64) (steps : Nat → Int32) (next : Nat → Int64) (a1 : Int32) : ∃ (r5 : Int64 × (Nat → Int32) × (Nat → Int64) × (Nat → Int32) × (Nat → Int32) × (Nat → Int32) × Int32 × (Nat → Int64) × (Nat → Int32) × Int32 × Int32) (r6 : Int64 × (Nat → Int32) × (Nat → Int32) × (Nat → Int64) × (Nat → Int64) × (Nat → Int32) × (Nat → Int64) × Int32 × Int32 × (Nat → Int32) × (Nat → Int64)), fX5_times k1 page g top code way made counts items size known a1 = some r5 ∧ fX6_times k2 other poly th steps sheet next isP parts partOf partTimes a1 = some r6 ∧ r5.1 = r6.1 ∧ PtOk page r5.2.2.1 r5.2.2.2.2.2.2.1 r5.2.2.2.2.2.2.2.1 r5.2.2.2.2.2.2.2.2.1 r5.2.2.2.2.2.2.2.2.2.1 r5.2.2.2.2.2.2.2.2.2.2 r6.2.2.2.2.2.2.2.1 r6.2.2.2.2.2.2.2.2.1 r6.2.2.2.2.2.2.2.2.2.1 r6.2.2.2.2.2.2.2.2.2.2 := by
  obtain ⟨q1, q2, h⟩ := fit_cases k1 k2 a1
  have h10 : ¬ nI 1 = nI 0 := by decide
  obtain ⟨L, hL⟩ : ∃ L, L = lost_ := ⟨_, rfl⟩
  rcases h with ⟨h1, h2⟩ | ⟨h1, h2, h3⟩ | ⟨x, w, hx, h1, h2, h3, h4, h5, h6⟩
  · refine ⟨(L, q1, g, top, code, way, made, counts, items, size, known), (L, q2, other, poly, th, steps, next, isP, parts, partOf, partTimes), ?_, ?_, rfl, hO⟩
    · rw [hL, ← lost_e]
      simp only [fX5_times, h1, bd_go, i_lit]
      rw [if_neg (by decide : ¬ nI 0 ≤ -nI 2)]
    · rw [hL, ← lost_e]
      simp only [fX6_times, h2, bd_go, i_lit]
      rw [if_pos trivial]
  · refine ⟨(L, q1, g, top, code, way, made, counts, items, size, known), (L, q2, other, poly, th, steps, next, isP, parts, partOf, partTimes), ?_, ?_, rfl, hO⟩
    · rw [hL, ← lost_e]
      simp only [fX5_times, h1, bd_go, i_lit]
      rw [if_neg (by decide : ¬ nI 0 ≤ -nI 3)]
    · rw [hL, ← lost_e]
      simp only [fX6_times, h2, h3, bd_go, i_lit]
      rw [if_neg h10, if_pos trivial]
  · obtain ⟨hS, hC, hR⟩ := hO
    obtain ⟨c1, i1, n1, g1, t1, co1, w1, m1, r1, E1, e1, x1, x2, x3, x4, x5⟩ := find_3 hC hS top code way q1
    obtain ⟨o2, p2, t2, s2, nx2, n2, f2, tm2, E2, e2, y1, y2, y3⟩ := knows_6 hP hR other poly th steps next
    have hE := exp_uniq x2 y1
    have hpl : fX6_plainOf q2 = some (nI (pl x)) := by
      rw [plainOf_6 h4]
      unfold pl
      rw [plN_congr h6]
    have hO' : PtOk page g1 m1 c1 i1 (nI n1) (nI 1) (nI 1) (nI n2) f2 tm2 := ⟨x1, Or.inr ⟨rfl, E1, n1, x2, x3, rfl, x4, x5⟩, Or.inr ⟨rfl, E2, n2, y1, rfl, y2, y3⟩⟩
    obtain ⟨F, hF⟩ := y3
    have e4 := times_L (sheet := sheet) (p1 := a1) (isP := nI 1) (one := q2) (other := o2) (steps := s2) (poly := p2) (th := t2) (next := nx2) hF y2 hx n2 fu 0 (Nat.zero_add _) (by rw [fu_s]; omega) (fun i hi => by omega)
    obtain ⟨V, hV⟩ : ∃ V, V = E2 x := ⟨_, rfl⟩
    rw [← hV] at e4
    refine ⟨(V, r1, g1, t1, co1, w1, m1, c1, i1, nI n1, nI 1), (V, q2, o2, p2, t2, s2, nx2, nI 1, nI n2, f2, tm2), ?_, ?_, rfl, hO'⟩
    · have e5 : fX2_at c1 (nI x) = some V := by rw [at_n hx, x3 x hx, hE x hx, hV]
      simp only [fX5_times, h1, bd_go, i_lit, e1, e5]
      rw [if_pos (nI_nn hx)]
    · simp only [fX6_times, h2, bd_go, i_lit]
      rw [if_neg h10, h3, bd_some, if_neg h10, e2, bd_some, hpl, bd_some]
      exact e4
