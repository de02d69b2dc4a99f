/-! ===== the difference by degrees, in its place ===== -/
def TopOk (top : Nat → Int32) (T : Nat → Nat) : Prop := ∀ j, 1 ≤ j → j ≤ 4 → top j = nI (T j) ∧ T j ≤ 9 - j
def Vd (i : Nat) (F : Nat → Nat → Nat → Nat → Int64) (d u v k l : Nat) : Int64 := if d ≤ u + v + k + l then F u v k l else if u + v + k + l + 1 = d then 0 else DD i (F u v) k l
theorem Vd_zero {i : Nat} {F : Nat → Nat → Nat → Nat → Int64} {u v : Nat} (h : ∀ k l, k ≤ 9 - i → l ≤ 8 - i → F u v k l = 0) (d : Nat) {k l : Nat} (hk : k ≤ 9 - i) (hl : l ≤ 8 - i) : Vd i F d u v k l = 0 := by
  unfold Vd
  split
  · exact h k l hk hl
  · split
    · rfl
    · exact DD_zero (fun a b ha hb _ _ => h a b ha hb)
theorem low_step {i : Nat} (hi : I3 i) {top : Nat → Int32} {T : Nat → Nat} (hT : TopOk top T) {F : Nat → Nat → Nat → Nat → Int64} (hF : ∀ u v k l, Bx i u v k l → (T (pp_ i) < u ∨ T (qq_ i) < v ∨ T i < k ∨ T (i + 1) < l) → F u v k l = 0) {u v d : Nat} (hu : u ≤ 9 - pp_ i) (hv : v ≤ 9 - qq_ i) (hd : d ≤ 26) (D : Nat → Nat → Nat) (hD : D u v = d) {q : Nat → Int64} (hq : ∀ u' v' a b, Bx i u' v' a b → q (Ci i u' v' a b) = Vd i F (D u' v') u' v' a b) : ∃ q', fX2_lowerLine q top (nI i) (nI (u * Sc (pp_ i) + v * Sc (qq_ i))) (nI d - nI u - nI v) = some q' ∧ ∀ u' v' a b, Bx i u' v' a b → q' (Ci i u' v' a b) = Vd i F (if u' = u ∧ v' = v then d + 1 else D u' v') u' v' a b := by
  have i1 := hi.ge
  have i3 := hi.le
  have hpq := pq_in hi
  have t1 := hT i i1 (by omega)
  have t2 := hT (i + 1) (by omega) (by omega)
  by_cases hc : u + v ≤ d
  · rw [i_dif (by omega), i_dif (by omega)]
    obtain ⟨s, hs⟩ : ∃ s, s = d - u - v := ⟨_, rfl⟩
    rw [← hs]
    obtain ⟨q', e1, e2⟩ := low_line hi hu hv (by omega : s ≤ 26) t1.1 t2.1 (by omega) (by omega) (p := q) (by
      intro a b ha hb hab hm
      rw [hq u v a b ⟨hu, hv, ha, hb⟩, hD]
      unfold Vd
      rcases hab with e | e
      · rw [if_pos (by omega)]; exact hF u v a b ⟨hu, hv, ha, hb⟩ (by omega)
      · rw [if_neg (by omega), if_pos (by omega)])
    refine ⟨q', e1, fun u' v' a b hb => ?_⟩
    rw [e2 u' v' a b hb]
    by_cases c : u' = u ∧ v' = v
    · rw [if_pos c, if_pos c]
      obtain ⟨rfl, rfl⟩ := c
      by_cases c1 : a + b = s
      · rw [if_pos c1]
        unfold Vd
        rw [if_neg (by omega), if_pos (by omega)]
      · rw [if_neg c1]
        by_cases c2 : a + b + 1 = s
        · rw [if_pos c2]
          unfold Vd
          rw [if_neg (by omega), if_neg (by omega)]
          refine DD_congr (fun x y hx hy e => ?_)
          rw [hq u' v' x y ⟨hu, hv, hx, hy⟩, hD]
          unfold Vd
          rw [if_pos (by omega)]
        · rw [if_neg c2, hq u' v' a b hb, hD]
          unfold Vd
          by_cases c3 : d + 1 ≤ u' + v' + a + b
          · rw [if_pos c3, if_pos (by omega)]
          · rw [if_neg c3, if_neg (by omega), if_neg (by omega), if_neg (by omega)]
    · rw [if_neg c, if_neg c]
      exact hq u' v' a b hb
  · obtain ⟨z, hz⟩ : ∃ z, u + v = d + z := ⟨u + v - d, by omega⟩
    have e : nI d - nI u - nI v = -nI z := by
      have e1 : nI u + nI v = nI d + nI z := by rw [nI_add, nI_add, hz]
      grind
    rw [e]
    refine ⟨q, low_neg hi (by omega) (by omega) t1.1 t2.1 (by omega) (by omega), fun u' v' a b hb => ?_⟩
    rw [hq u' v' a b hb]
    by_cases c : u' = u ∧ v' = v
    · rw [if_pos c]
      obtain ⟨rfl, rfl⟩ := c
      rw [hD]
      unfold Vd
      rw [if_pos (by omega), if_pos (by omega)]
    · rw [if_neg c]
theorem deg_in {i : Nat} (hi : I3 i) {top : Nat → Int32} {T : Nat → Nat} (hT : TopOk top T) {F : Nat → Nat → Nat → Nat → Int64} (hF : ∀ u v k l, Bx i u v k l → (T (pp_ i) < u ∨ T (qq_ i) < v ∨ T i < k ∨ T (i + 1) < l) → F u v k l = 0) {u d : Nat} (hu : u ≤ 9 - pp_ i) (hd : d ≤ 26) (rec : (Nat → Int64) → Int32 → Int32 → Int32 → Option (Nat → Int64)) : ∀ (n fl v : Nat) (q : Nat → Int64), v + n = T (qq_ i) + 1 → n < fl → (∀ u' v' a b, Bx i u' v' a b → q (Ci i u' v' a b) = Vd i F (if u' < u ∨ (u' = u ∧ v' < v) then d + 1 else d) u' v' a b) → ∃ q', fX2_lowerDegree_L40 top (nI i) (nI d) rec fl q (nI (pp_ i)) (nI (qq_ i)) (nI u) (nI v) = rec q' (nI (pp_ i)) (nI (qq_ i)) (nI (u + 1)) ∧ ∀ u' v' a b, Bx i u' v' a b → q' (Ci i u' v' a b) = Vd i F (if u' < u + 1 then d + 1 else d) u' v' a b := by
  have hpq := pq_in hi
  have tp := hT (pp_ i) hpq.1 hpq.2.1
  have tq := hT (qq_ i) hpq.2.2.1 hpq.2.2.2.1
  intro n
  induction n with
  | zero =>
    intro fl v q hv hf hq
    obtain ⟨fl, rfl⟩ : ∃ q, fl = q + 1 := ⟨fl - 1, by omega⟩
    refine ⟨q, ?_, fun u' v' a b hb => ?_⟩
    · simp only [fX2_lowerDegree_L40, i_lit, nmE, nI_add]
      rw [gI_at (by omega) (by decide), tq.1, if_pos ((nI_ltI (by omega) (by omega)).mpr (by omega))]
    · rw [hq u' v' a b hb]
      by_cases c : T (qq_ i) < v'
      · have z : ∀ k l, k ≤ 9 - i → l ≤ 8 - i → F u' v' k l = 0 := fun k l hk hl => hF u' v' k l ⟨hb.1, hb.2.1, hk, hl⟩ (Or.inr (Or.inl c))
        rw [Vd_zero z _ hb.2.2.1 hb.2.2.2, Vd_zero z _ hb.2.2.1 hb.2.2.2]
      · congr 1
        by_cases c2 : u' < u + 1
        · rw [if_pos c2, if_pos (by omega)]
        · rw [if_neg c2, if_neg (by omega)]
  | succ n ih =>
    intro fl v q hv hf hq
    obtain ⟨fl, rfl⟩ : ∃ q, fl = q + 1 := ⟨fl - 1, by omega⟩
    obtain ⟨q1, e1, e2⟩ := low_step hi hT hF hu (by omega : v ≤ 9 - qq_ i) hd (fun u' v' => if u' < u ∨ (u' = u ∧ v' < v) then d + 1 else d) (if_neg (by omega)) hq
    obtain ⟨q', e3, e4⟩ := ih fl (v + 1) q1 (by omega) (by omega) (fun u' v' a b hb => by
      rw [e2 u' v' a b hb]
      congr 1
      by_cases c : u' = u ∧ v' = v
      · rw [if_pos c, if_pos (by omega)]
      · rw [if_neg c]
        by_cases c2 : u' < u ∨ (u' = u ∧ v' < v)
        · rw [if_pos c2, if_pos (by omega)]
        · rw [if_neg c2, if_neg (by omega)])
    refine ⟨q', ?_, e4⟩
    simp only [fX2_lowerDegree_L40, i_lit, nmE, nI_add]
    rw [gI_at (by omega) (by decide), tq.1, if_neg (fun q => by rw [nI_ltI (by omega) (by omega)] at q; omega), gI_at (by omega) (by decide), gI_at (by omega) (by decide), stride_at _ (by omega) hpq.1, stride_at _ (by omega) hpq.2.2.1, nI_mul, nI_mul, nI_add, e1, bd_some]
    exact e3
theorem deg_out {i : Nat} (hi : I3 i) {top : Nat → Int32} {T : Nat → Nat} (hT : TopOk top T) {F : Nat → Nat → Nat → Nat → Int64} (hF : ∀ u v k l, Bx i u v k l → (T (pp_ i) < u ∨ T (qq_ i) < v ∨ T i < k ∨ T (i + 1) < l) → F u v k l = 0) {d : Nat} (hd : d ≤ 26) : ∀ (n fl u : Nat) (q : Nat → Int64), u + n = T (pp_ i) + 1 → n < fl → (∀ u' v' a b, Bx i u' v' a b → q (Ci i u' v' a b) = Vd i F (if u' < u then d + 1 else d) u' v' a b) → ∃ q', fX2_lowerDegree_L26 top (nI i) (nI d) fl q (nI (pp_ i)) (nI (qq_ i)) (nI u) = some q' ∧ ∀ u' v' a b, Bx i u' v' a b → q' (Ci i u' v' a b) = Vd i F (d + 1) u' v' a b := by
  have hpq := pq_in hi
  have tp := hT (pp_ i) hpq.1 hpq.2.1
  have tq := hT (qq_ i) hpq.2.2.1 hpq.2.2.2.1
  intro n
  induction n with
  | zero =>
    intro fl u q hu hf hq
    obtain ⟨fl, rfl⟩ : ∃ q, fl = q + 1 := ⟨fl - 1, by omega⟩
    refine ⟨q, ?_, fun u' v' a b hb => ?_⟩
    · simp only [fX2_lowerDegree_L26, i_lit]
      rw [gI_at (by omega) (by decide), tp.1, if_pos ((nI_ltI (by omega) (by omega)).mpr (by omega))]
    · rw [hq u' v' a b hb]
      by_cases c : T (pp_ i) < u'
      · have z : ∀ k l, k ≤ 9 - i → l ≤ 8 - i → F u' v' k l = 0 := fun k l hk hl => hF u' v' k l ⟨hb.1, hb.2.1, hk, hl⟩ (Or.inl c)
        rw [Vd_zero z _ hb.2.2.1 hb.2.2.2, Vd_zero z _ hb.2.2.1 hb.2.2.2]
      · rw [if_pos (by omega)]
  | succ n ih =>
    intro fl u q hu hf hq
    obtain ⟨fl, rfl⟩ : ∃ q, fl = q + 1 := ⟨fl - 1, by omega⟩
    obtain ⟨q1, e1, e2⟩ := deg_in hi hT hF (by omega : u ≤ 9 - pp_ i) hd (fX2_lowerDegree_L26 top (nI i) (nI d) fl) (T (qq_ i) + 1) fu 0 q (by omega) (by rw [fu_s]; omega) (fun u' v' a b hb => by
      rw [hq u' v' a b hb]
      congr 1
      by_cases c : u' < u
      · rw [if_pos c, if_pos (Or.inl c)]
      · rw [if_neg c, if_neg (by omega)])
    obtain ⟨q', e3, e4⟩ := ih fl (u + 1) q1 (by omega) (by omega) e2
    refine ⟨q', ?_, e4⟩
    simp only [fX2_lowerDegree_L26, i_lit]
    rw [gI_at (by omega) (by decide), tp.1, if_neg (fun q => by rw [nI_ltI (by omega) (by omega)] at q; omega), e1]
    exact e3
theorem deg_2 {i : Nat} (hi : I3 i) {top : Nat → Int32} {T : Nat → Nat} (hT : TopOk top T) {F : Nat → Nat → Nat → Nat → Int64} (hF : ∀ u v k l, Bx i u v k l → (T (pp_ i) < u ∨ T (qq_ i) < v ∨ T i < k ∨ T (i + 1) < l) → F u v k l = 0) {d : Nat} (hd : d ≤ 26) (q : Nat → Int64) (hq : ∀ u' v' a b, Bx i u' v' a b → q (Ci i u' v' a b) = Vd i F d u' v' a b) : ∃ q', fX2_lowerDegree q top (nI i) (nI d) = some q' ∧ ∀ u' v' a b, Bx i u' v' a b → q' (Ci i u' v' a b) = Vd i F (d + 1) u' v' a b := by
  have hpq := pq_in hi
  have tp := hT (pp_ i) hpq.1 hpq.2.1
  obtain ⟨q', e1, e2⟩ := deg_out hi hT hF hd (T (pp_ i) + 1) fu 0 q (by omega) (by rw [fu_s]; omega) (fun u' v' a b hb => by rw [if_neg (by omega)]; exact hq u' v' a b hb)
  refine ⟨q', ?_, e2⟩
  rw [← e1]
  simp only [fX2_lowerDegree, fX2_lowerDegree_b10, i_lit]
  rcases hi with rfl | rfl | rfl
  · rw [if_pos rfl, if_neg (by decide : ¬ nI 1 = nI 3)]; rfl
  · rw [if_neg (by decide : ¬ nI 2 = nI 1), if_neg (by decide : ¬ nI 2 = nI 3)]; rfl
  · rw [if_neg (by decide : ¬ nI 3 = nI 1), if_pos rfl]; rfl
def Tn (i : Nat) (T : Nat → Nat) (j : Nat) : Nat := if j = i ∨ j = i + 1 then max (T i) (T (i + 1)) - 1 else T j
theorem dif_L {i : Nat} (hi : I3 i) {top : Nat → Int32} {T : Nat → Nat} (hT : TopOk top T) {F : Nat → Nat → Nat → Nat → Int64} (hF : ∀ u v k l, Bx i u v k l → (T (pp_ i) < u ∨ T (qq_ i) < v ∨ T i < k ∨ T (i + 1) < l) → F u v k l = 0) {hh : Nat} (hd : hh ≤ 26) {p2 : Int32} : ∀ (n fl d : Nat) (q : Nat → Int64), d + n = hh + 1 → n < fl → (∀ u' v' a b, Bx i u' v' a b → q (Ci i u' v' a b) = Vd i F d u' v' a b) → ∃ q' top', fX2_differ_L14 (nI i) p2 (nI hh) fl q top (nI d) = some (q', top') ∧ (∀ u' v' a b, Bx i u' v' a b → q' (Ci i u' v' a b) = Vd i F (hh + 1) u' v' a b) ∧ TopOk top' (Tn i T) := by
  have i1 := hi.ge
  have i3 := hi.le
  have t1 := hT i i1 (by omega)
  have t2 := hT (i + 1) (by omega) (by omega)
  intro n
  induction n with
  | zero =>
    intro fl d q hn hf hq
    obtain ⟨fl, rfl⟩ : ∃ q, fl = q + 1 := ⟨fl - 1, by omega⟩
    have hm : (if nI (max (T i) (T (i + 1))) - nI 1 < nI 0 then nI 0 else nI (max (T i) (T (i + 1))) - nI 1) = nI (max (T i) (T (i + 1)) - 1) := by
      by_cases c : max (T i) (T (i + 1)) = 0
      · rw [c]; decide
      · rw [i_dif (by omega), if_neg (fun q => by rw [nI_ltI (by omega) (by omega)] at q; omega)]
    refine ⟨q, upd (upd top i (nI (max (T i) (T (i + 1)) - 1))) (i + 1) (nI (max (T i) (T (i + 1)) - 1)), ?_, ?_, ?_⟩
    · simp only [fX2_differ_L14, i_lit, nmE, nI_add]
      rw [if_pos ((nI_ltI (by omega) (by omega)).mpr (by omega)), gI_at (by omega) (by decide), gI_at (by omega) (by decide), t1.1, t2.1, i_max (by omega) (by omega), hm, pI_at (by omega) (by decide), gI_at (by omega) (by decide), pI_at (by omega) (by decide), upd_s]
    · rw [show d = hh + 1 by omega] at hq; exact hq
    · intro j j1 j4
      unfold Tn
      by_cases c1 : j = i + 1
      · rw [c1, upd_s, if_pos (Or.inr rfl)]
        exact ⟨rfl, by omega⟩
      · rw [upd_n c1]
        by_cases c2 : j = i
        · rw [c2, upd_s, if_pos (Or.inl rfl)]
          exact ⟨rfl, by omega⟩
        · rw [upd_n c2, if_neg (by omega)]
          exact hT j j1 j4
  | succ n ih =>
    intro fl d q hn hf hq
    obtain ⟨fl, rfl⟩ : ∃ q, fl = q + 1 := ⟨fl - 1, by omega⟩
    obtain ⟨q1, e1, e2⟩ := deg_2 hi hT hF (by omega : d ≤ 26) q hq
    obtain ⟨q', top', e3, e4, e5⟩ := ih fl (d + 1) q1 (by omega) (by omega) e2
    refine ⟨q', top', ?_, e4, e5⟩
    simp only [fX2_differ_L14, i_lit, nmE, nI_add]
    rw [if_neg (fun q => by rw [nI_ltI (by omega) (by omega)] at q; omega), e1, bd_some]
    exact e3
/-- the class's difference -/
theorem differ_2 {i : Nat} (hi : I3 i) {top : Nat → Int32} {T : Nat → Nat} (hT : TopOk top T) {p : Nat → Int64} (hF : ∀ u v k l, Bx i u v k l → (T (pp_ i) < u ∨ T (qq_ i) < v ∨ T i < k ∨ T (i + 1) < l) → p (Ci i u v k l) = 0) {lo hh : Nat} (hlh : lo ≤ hh + 1) (hd : hh ≤ 26) (hdeg : ∀ u v k l, Bx i u v k l → (u + v + k + l < lo ∨ hh < u + v + k + l) → p (Ci i u v k l) = 0) : ∃ q' top', fX2_differ p top (nI i) (nI lo) (nI hh) = some (q', top') ∧ (∀ u v k l, Bx i u v k l → q' (Ci i u v k l) = DD i (fun a b => p (Ci i u v a b)) k l) ∧ TopOk top' (Tn i T) := by
  have i1 := hi.ge
  have i3 := hi.le
  obtain ⟨q', top', e1, e2, e3⟩ := dif_L hi hT (F := fun u v k l => p (Ci i u v k l)) hF hd (p2 := nI lo) (hh + 1 - lo) fu lo p (by omega) (by rw [fu_s]; omega) (fun u' v' a b hb => by
    unfold Vd
    by_cases c : lo ≤ u' + v' + a + b
    · rw [if_pos c]
    · rw [if_neg c, hdeg u' v' a b hb (by omega)]
      by_cases c2 : u' + v' + a + b + 1 = lo
      · rw [if_pos c2]
      · rw [if_neg c2]
        exact (DD_zero (fun x y hx hy e m => hdeg u' v' x y ⟨hb.1, hb.2.1, hx, hy⟩ (by omega))).symm)
  refine ⟨q', top', ?_, fun u v k l hb => ?_, e3⟩
  · simp only [fX2_differ, i_lit]
    rw [if_neg (fun q => by rw [nI_ltI (by omega) (by omega)] at q; omega : ¬ nI i < nI 1), if_pos ((nI_ltI (by omega) (by omega)).mpr (by omega) : nI i < nI 4)]
    exact e1
  · rw [e2 u v k l hb]
    unfold Vd
    by_cases c : hh + 1 ≤ u + v + k + l
    · rw [if_pos c]
      show p (Ci i u v k l) = _
      rw [hdeg u v k l hb (by omega)]
      exact (DD_zero (fun x y hx hy e m => hdeg u v x y ⟨hb.1, hb.2.1, hx, hy⟩ (by omega))).symm
    · rw [if_neg c]
      by_cases c2 : u + v + k + l + 1 = hh + 1
      · rw [if_pos c2]
        exact (DD_zero (fun x y hx hy e m => hdeg u v x y ⟨hb.1, hb.2.1, hx, hy⟩ (by omega))).symm
      · rw [if_neg c2]
/-- where the difference is 0 -/
theorem DD_top {i : Nat} {p : Nat → Int64} {T : Nat → Nat} (hF : ∀ u v k l, Bx i u v k l → (T (pp_ i) < u ∨ T (qq_ i) < v ∨ T i < k ∨ T (i + 1) < l) → p (Ci i u v k l) = 0) {u v k l : Nat} (hb : Bx i u v k l) (h : T (pp_ i) < u ∨ T (qq_ i) < v ∨ max (T i) (T (i + 1)) - 1 < k ∨ max (T i) (T (i + 1)) - 1 < l) : DD i (fun a b => p (Ci i u v a b)) k l = 0 := by
  refine DD_zero (fun a b ha hb' e m => hF u v a b ⟨hb.1, hb.2.1, ha, hb'⟩ ?_)
  omega
