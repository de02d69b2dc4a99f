/-! ===== the reference's difference ===== -/
theorem lgz (x : Int64) : lg_cmp x 0 = nI 0 ↔ x = 0 := by
  have h := lg_cmp_eq x 0
  simp only [i_lit] at h
  exact h
theorem strideOf_6 {i : Nat} (h1 : 1 ≤ i) (h4 : i ≤ 4) : fX6_strideOf (nI i) = some (nI (Sr i)) := by
  rcases (show i = 1 ∨ i = 2 ∨ i = 3 ∨ i = 4 by omega) with rfl | rfl | rfl | rfl <;> decide
theorem exponentAt_6 {x i : Nat} (hx : x < 3024) (h1 : 1 ≤ i) (h4 : i ≤ 4) : fX6_exponentAt (nI x) (nI i) = some (nI (xr x i)) := by
  have d1 : x / 42 ≤ x := Nat.div_le_self _ _
  have d2 : x / 6 ≤ x := Nat.div_le_self _ _
  simp only [fX6_exponentAt, i_lit]
  simp (disch := omega) only [i_div, i_mod, nI_eq]
  unfold xr
  by_cases e1 : i = 1
  · rw [if_pos e1, if_pos e1]
  · rw [if_neg e1, if_neg e1]
    by_cases e2 : i = 2
    · rw [if_pos e2, if_pos e2]
    · rw [if_neg e2, if_neg e2]
      by_cases e3 : i = 3
      · rw [if_pos e3, if_pos e3]
      · rw [if_neg e3, if_neg e3]
def ctr (i : Nat) (row : Nat → Int64) (u v k l x : Nat) : Int64 := if xr x (pp_ i) = u ∧ xr x (qq_ i) = v ∧ xr x i + xr x (i + 1) = k + l + 1 ∧ min (xr x i) (xr x (i + 1)) ≤ k ∧ k < max (xr x i) (xr x (i + 1)) then (if xr x i ≤ xr x (i + 1) then -row x else row x) else 0
theorem dfs_in {i : Nat} (hi : I3 i) {u v a b x : Nat} (hB : Bx i u v a b) (hx : x = Cr i u v a b) (rec : (Nat → Int64) → (Nat → Int64) → Int32 → Int32 → Int32 → Option ((Nat → Int64) × (Nat → Int64))) {row : Nat → Int64} {by_ to : Int32} (hby : by_ = nI (Sr i)) (hto : to = nI (Sr (i + 1))) {base : Int32} (hbase : base = nI (u * Sr (pp_ i) + v * Sr (qq_ i))) : ∀ (n fl k : Nat) (th : Nat → Int64), k + n = max a b → min a b ≤ k → n < fl → ∃ th', fX6_differs_L124 (nI i) rec fl th row by_ to (nI x) (nI a) (nI b) (nI (min a b)) (nI (max a b)) base (nI k) = rec th' row by_ to (nI (x + 1)) ∧ ∀ u' v' k' l', Bx i u' v' k' l' → th' (Cr i u' v' k' l') = th (Cr i u' v' k' l') + (if u = u' ∧ v = v' ∧ a + b = k' + l' + 1 ∧ k ≤ k' ∧ k' < max a b then (if a ≤ b then -row x else row x) else 0) := by
  have i1 := hi.ge
  have i3 := hi.le
  have hxl : x < 3024 := by rw [hx]; exact Cr_lt hi hB
  subst hby hto hbase
  intro n
  induction n with
  | zero =>
    intro fl k th hk hm hf
    obtain ⟨fl, rfl⟩ : ∃ q, fl = q + 1 := ⟨fl - 1, by omega⟩
    have := hB.2.2
    refine ⟨th, ?_, fun u' v' k' l' _ => ?_⟩
    · simp only [fX6_differs_L124, i_lit, nmE, nI_add]
      rw [if_pos ((nI_leI (by omega) (by omega)).mpr (by omega))]
    · rw [if_neg (by omega)]; grind
  | succ n ih =>
    intro fl k th hk hm hf
    obtain ⟨fl, rfl⟩ : ∃ q, fl = q + 1 := ⟨fl - 1, by omega⟩
    have hB2 := hB.2.2
    obtain ⟨val, hval⟩ : ∃ val, val = if a ≤ b then -row x else row x := ⟨_, rfl⟩
    have hBk : Bx i u v k (a + b - 1 - k) := ⟨hB.1, hB.2.1, by omega, by omega⟩
    have hlt := Cr_lt hi hBk
    obtain ⟨th', e1, e2⟩ := ih fl (k + 1) (vp_updL th (Cr i u v k (a + b - 1 - k)) (th (Cr i u v k (a + b - 1 - k)) + val)) (by omega) (by omega) (by omega)
    have eidx : nI (u * Sr (pp_ i) + v * Sr (qq_ i)) + nI k * nI (Sr i) + (nI (max a b) + nI (min a b) - nI 1 - nI k) * nI (Sr (i + 1)) = nI (Cr i u v k (a + b - 1 - k)) := by
      rw [nI_add, show max a b + min a b = a + b by omega, i_dif (by omega), i_dif (by omega), nI_mul, nI_mul, nI_add, nI_add]
      rfl
    refine ⟨th', ?_, fun u' v' k' l' hb => ?_⟩
    · simp only [fX6_differs_L124, fX6_differs_b177, i_lit, nmE]
      rw [if_neg (fun q => by rw [nI_leI (by omega) (by omega)] at q; omega), eidx, gJ_at hlt (by decide), gJ_at hxl (by decide), gJ_at hxl (by decide), pJ_at hlt (by decide), pJ_at hlt (by decide), nI_add]
      by_cases c : a ≤ b
      · rw [if_pos ((nI_leI (by omega) (by omega)).mpr c)]
        rw [hval, if_pos c] at e1
        exact e1
      · rw [if_neg (fun q => c ((nI_leI (by omega) (by omega)).mp q))]
        rw [hval, if_neg c] at e1
        exact e1
    · rw [e2 u' v' k' l' hb, updL_at, ← hval]
      by_cases c : u' = u ∧ v' = v ∧ k' = k ∧ l' = a + b - 1 - k
      · obtain ⟨rfl, rfl, rfl, rfl⟩ := c
        rw [if_pos rfl, if_neg (by omega), if_pos (by omega)]
        grind
      · rw [if_neg (fun q => c ((Cr_inj hi hb hBk).mp q))]
        by_cases c2 : u = u' ∧ v = v' ∧ a + b = k' + l' + 1 ∧ k + 1 ≤ k' ∧ k' < max a b
        · rw [if_pos c2, if_pos (by omega)]
        · rw [if_neg c2, if_neg (by omega)]
theorem dfs_out {i : Nat} (hi : I3 i) {row : Nat → Int64} : ∀ (n fl x : Nat) (th : Nat → Int64), x + n = 3024 → n < fl → (∀ u v k l, Bx i u v k l → th (Cr i u v k l) = sJ (ctr i row u v k l) 0 x) → ∃ th', fX6_differs_L38 (nI i) fl th row (nI (Sr i)) (nI (Sr (i + 1))) (nI x) = fX6_differs_L194 (nI i) fu th' row (nI 0) ∧ ∀ u v k l, Bx i u v k l → th' (Cr i u v k l) = sJ (ctr i row u v k l) 0 3024 := by
  have i1 := hi.ge
  have i3 := hi.le
  intro n
  induction n with
  | zero =>
    intro fl x th hx hf h
    obtain ⟨fl, rfl⟩ : ∃ q, fl = q + 1 := ⟨fl - 1, by omega⟩
    refine ⟨th, ?_, ?_⟩
    · simp only [fX6_differs_L38, i_lit]
      rw [if_pos ((nI_leI (by omega) (by omega)).mpr (by omega))]
    · rw [show x = 3024 by omega] at h; exact h
  | succ n ih =>
    intro fl x th hx hf h
    obtain ⟨fl, rfl⟩ : ∃ q, fl = q + 1 := ⟨fl - 1, by omega⟩
    have hxl : x < 3024 := by omega
    obtain ⟨eC, hB⟩ := Cr_xr hi hxl
    have hB2 := hB.2.2
    simp only [fX6_differs_L38, i_lit, nmE, nI_add, exponentAt_6 hxl i1 (by omega : i ≤ 4), exponentAt_6 hxl (by omega : 1 ≤ i + 1) (by omega : i + 1 ≤ 4), bd_some]
    rw [if_neg (fun q => by rw [nI_leI (by omega) (by omega)] at q; omega), gJ_at hxl (by decide)]
    simp only [lgz]
    by_cases h0 : row x = 0
    · rw [if_pos h0]
      refine ih fl (x + 1) th (by omega) (by omega) (fun u v k l hb => ?_)
      rw [h u v k l hb, sJ_last, Nat.zero_add]
      have : ctr i row u v k l x = 0 := by
        unfold ctr
        rw [h0]
        split
        · split
          · grind
          · rfl
        · rfl
      rw [this]
      grind
    · rw [if_neg h0]
      obtain ⟨a, ha⟩ : ∃ a, a = xr x i := ⟨_, rfl⟩
      obtain ⟨b, hb_⟩ : ∃ b, b = xr x (i + 1) := ⟨_, rfl⟩
      obtain ⟨u0, hu0⟩ : ∃ u0, u0 = xr x (pp_ i) := ⟨_, rfl⟩
      obtain ⟨v0, hv0⟩ : ∃ v0, v0 = xr x (qq_ i) := ⟨_, rfl⟩
      rw [← ha, ← hb_, ← hu0, ← hv0] at eC hB
      rw [← ha, ← hb_] at hB2
      rw [← ha, ← hb_]
      have hbase : nI x - nI a * nI (Sr i) - nI b * nI (Sr (i + 1)) = nI (u0 * Sr (pp_ i) + v0 * Sr (qq_ i)) := by
        have e : u0 * Sr (pp_ i) + v0 * Sr (qq_ i) + a * Sr i + b * Sr (i + 1) = x := eC
        rw [nI_mul, nI_mul, ← e, ← nI_add, ← nI_add]
        grind
      obtain ⟨th1, e1, e2⟩ := dfs_in hi hB eC.symm (fX6_differs_L38 (nI i) fl) (row := row) rfl rfl rfl (max a b - min a b) fu (min a b) th (by omega) (Nat.le_refl _) (by rw [fu_s]; omega)
      obtain ⟨th', e3, e4⟩ := ih fl (x + 1) th1 (by omega) (by omega) (fun u v k l hb => by
        rw [e2 u v k l hb, h u v k l hb, sJ_last, Nat.zero_add]
        congr 1
        unfold ctr
        rw [← ha, ← hb_, ← hu0, ← hv0])
      refine ⟨th', ?_, e4⟩
      rw [← e3, ← e1]
      simp only [fX6_differs_b87, fX6_differs_b103, nmE, hbase]
      by_cases c : b ≤ a
      · rw [if_pos ((nI_leI (by omega) (by omega)).mpr c), if_pos ((nI_leI (by omega) (by omega)).mpr c), show min a b = b by omega, show max a b = a by omega]
      · rw [if_neg (fun q => c ((nI_leI (by omega) (by omega)).mp q)), if_neg (fun q => c ((nI_leI (by omega) (by omega)).mp q)), show min a b = a by omega, show max a b = b by omega]
/-- of all cells only those of one line count -/
theorem ctr_line {i : Nat} (hi : I3 i) {row : Nat → Int64} {u v k l : Nat} (hb : Bx i u v k l) : sJ (ctr i row u v k l) 0 3024 = DD i (fun a b => row (Cr i u v a b)) k l := by
  have i1 := hi.ge
  have i3 := hi.le
  obtain ⟨s, hs⟩ : ∃ s, s = k + l + 1 := ⟨_, rfl⟩
  rw [sJ_enum (N := 3024) (fun t => Cr i u v t (s - t)) (fun t => bxi i t (s - t)) (s + 1) (ctr i row u v k l) (fun j hj oj => Cr_lt hi ⟨hb.1, hb.2.1, (bxi_iff.mp oj).1, (bxi_iff.mp oj).2⟩) (fun j j' hj hj' oj oj' e => ((Cr_inj hi ⟨hb.1, hb.2.1, (bxi_iff.mp oj).1, (bxi_iff.mp oj).2⟩ ⟨hb.1, hb.2.1, (bxi_iff.mp oj').1, (bxi_iff.mp oj').2⟩).mp e).2.2.1) (fun x hx hne => by
    obtain ⟨eC, hB⟩ := Cr_xr hi hx
    unfold ctr
    by_cases c : xr x (pp_ i) = u ∧ xr x (qq_ i) = v ∧ xr x i + xr x (i + 1) = k + l + 1
    · exfalso
      obtain ⟨c1, c2, c3⟩ := c
      refine hne (xr x i) (by omega) (bxi_iff.mpr ⟨hB.2.2.1, by have := hB.2.2.2; omega⟩) ?_
      rw [show s - xr x i = xr x (i + 1) by omega, ← c1, ← c2]
      exact eC.symm
    · rw [if_neg (fun q => c ⟨q.1, q.2.1, q.2.2.1⟩)])]
  obtain ⟨A, hA⟩ : ∃ A : Nat → Int64, A = fun t => bP i (fun a b => row (Cr i u v a b)) t (s - t) := ⟨_, rfl⟩
  have e1 : sJ (fun t => if bxi i t (s - t) = true then ctr i row u v k l (Cr i u v t (s - t)) else 0) 0 (s + 1) = sJ (fun t => (if max k l < t then A t else 0) - (if max k l < s - t then A t else 0)) 0 (s + 1) := by
    refine sJ_congr _ _ (fun t _ ht => ?_)
    show (if bxi i t (s - t) = true then ctr i row u v k l (Cr i u v t (s - t)) else 0) = _
    by_cases c : bxi i t (s - t) = true
    · have c' := bxi_iff.mp c
      obtain ⟨x1, x2, x3, x4⟩ := xr_Cr hi (⟨hb.1, hb.2.1, c'.1, c'.2⟩ : Bx i u v t (s - t))
      have eA : A t = row (Cr i u v t (s - t)) := by rw [hA]; exact bP_in c'
      rw [if_pos c, eA]
      unfold ctr
      rw [x1, x2, x3, x4]
      by_cases d1 : max k l < t
      · rw [if_pos d1, if_neg (by omega : ¬ max k l < s - t), if_pos (⟨rfl, rfl, by omega, by omega, by omega⟩ : u = u ∧ v = v ∧ t + (s - t) = k + l + 1 ∧ min t (s - t) ≤ k ∧ k < max t (s - t)), if_neg (by omega : ¬ t ≤ s - t)]
        grind
      · rw [if_neg d1]
        by_cases d2 : max k l < s - t
        · rw [if_pos d2, if_pos (⟨rfl, rfl, by omega, by omega, by omega⟩ : u = u ∧ v = v ∧ t + (s - t) = k + l + 1 ∧ min t (s - t) ≤ k ∧ k < max t (s - t)), if_pos (by omega : t ≤ s - t)]
          grind
        · rw [if_neg d2, if_neg (by omega : ¬ (u = u ∧ v = v ∧ t + (s - t) = k + l + 1 ∧ min t (s - t) ≤ k ∧ k < max t (s - t)))]
          grind
    · have eA : A t = 0 := by rw [hA]; exact bP_out (fun q => c (bxi_iff.mpr q))
      rw [if_neg c, eA]
      split <;> split <;> grind
  rw [e1, sJ_sub]
  have m1 : max k l ≤ s := by omega
  have e2 : sJ (fun t => if max k l < t then A t else 0) 0 (s + 1) = sJ A (max k l + 1) (s - max k l) := by
    rw [show s + 1 = (max k l + 1) + (s - max k l) by omega, sJ_split, sJ_zero (max k l + 1) 0 (fun t _ ht => if_neg (by omega)), Nat.zero_add, sJ_congr (g := A) _ _ (fun t ht _ => if_pos (by omega))]
    grind
  have e3 : sJ (fun t => if max k l < s - t then A t else 0) 0 (s + 1) = sJ (fun t => A (s - t)) (max k l + 1) (s - max k l) := by
    rw [sJ_rev A (s := s) (s - max k l) (max k l + 1) (by omega), show s + 1 - (max k l + 1) - (s - max k l) = 0 by omega, show s + 1 = (s - max k l) + (max k l + 1) by omega, sJ_split, sJ_congr (g := A) (s - max k l) 0 (fun t _ ht => if_pos (by omega)), sJ_zero (max k l + 1) (0 + (s - max k l)) (fun t ht _ => if_neg (by omega))]
    grind
  rw [e2, e3, ← sJ_sub]
  unfold DD
  rw [← hs]
  refine sJ_congr _ _ (fun t t1 t2 => ?_)
  show A t - A (s - t) = dl i (fun a b => row (Cr i u v a b)) s t
  unfold dl
  rw [hA]
  show bP i _ t (s - t) - bP i _ (s - t) (s - (s - t)) = _
  rw [show s - (s - t) = t by omega]
theorem dfs_copy {p2 : Int32} {th : Nat → Int64} : ∀ (n fl x : Nat) (row : Nat → Int64), x + n = 3024 → n < fl → ∃ row', fX6_differs_L194 p2 fl th row (nI x) = some (th, row') ∧ ∀ y, row' y = if x ≤ y ∧ y < 3024 then th y else row y := by
  intro n
  induction n with
  | zero =>
    intro fl x row hx hf
    obtain ⟨fl, rfl⟩ : ∃ q, fl = q + 1 := ⟨fl - 1, by omega⟩
    refine ⟨row, ?_, fun y => by rw [if_neg (by omega)]⟩
    simp only [fX6_differs_L194, i_lit]
    rw [if_pos ((nI_leI (by omega) (by omega)).mpr (by omega))]
  | succ n ih =>
    intro fl x row hx hf
    obtain ⟨fl, rfl⟩ : ∃ q, fl = q + 1 := ⟨fl - 1, by omega⟩
    obtain ⟨row', e1, e2⟩ := ih fl (x + 1) (vp_updL row x (th x)) (by omega) (by omega)
    refine ⟨row', ?_, fun y => ?_⟩
    · simp only [fX6_differs_L194, i_lit, nmE, nI_add]
      rw [if_neg (fun q => by rw [nI_leI (by omega) (by omega)] at q; omega), gJ_at (by omega) (by decide), pJ_at (by omega) (by decide)]
      exact e1
    · rw [e2 y, updL_at]
      by_cases c : y = x
      · rw [c, if_neg (by omega), if_pos rfl, if_pos (by omega)]
      · rw [if_neg c]
        by_cases c2 : x + 1 ≤ y ∧ y < 3024
        · rw [if_pos c2, if_pos (by omega)]
        · rw [if_neg c2, if_neg (by omega)]
theorem dfs_zero {i : Nat} (hi : I3 i) {row : Nat → Int64} : ∀ (n fl x : Nat) (th : Nat → Int64), x + n = 3024 → n < fl → (∀ y, y < x → th y = 0) → ∃ th', fX6_differs_L2 (nI i) fl th row (nI x) = fX6_differs_L38 (nI i) fu th' row (nI (Sr i)) (nI (Sr (i + 1))) (nI 0) ∧ ∀ y, y < 3024 → th' y = 0 := by
  have i1 := hi.ge
  have i3 := hi.le
  intro n
  induction n with
  | zero =>
    intro fl x th hx hf h
    obtain ⟨fl, rfl⟩ : ∃ q, fl = q + 1 := ⟨fl - 1, by omega⟩
    refine ⟨th, ?_, fun y hy => h y (by omega)⟩
    simp only [fX6_differs_L2, i_lit, nI_add, strideOf_6 i1 (by omega : i ≤ 4), strideOf_6 (by omega : 1 ≤ i + 1) (by omega : i + 1 ≤ 4), bd_some]
    rw [if_pos ((nI_leI (by omega) (by omega)).mpr (by omega))]
  | succ n ih =>
    intro fl x th hx hf h
    obtain ⟨fl, rfl⟩ : ∃ q, fl = q + 1 := ⟨fl - 1, by omega⟩
    obtain ⟨th', e1, e2⟩ := ih fl (x + 1) (vp_updL th x 0) (by omega) (by omega) (fun y hy => by
      rw [updL_at]
      by_cases c : y = x
      · rw [if_pos c]
      · rw [if_neg c]; exact h y (by omega))
    refine ⟨th', ?_, e2⟩
    simp only [fX6_differs_L2, i_lit, nmE, nI_add]
    rw [if_neg (fun q => by rw [nI_leI (by omega) (by omega)] at q; omega), pJ_at (by omega) (by decide)]
    exact e1
theorem differs_6 {i : Nat} (hi : I3 i) (th row : Nat → Int64) : ∃ th' row', fX6_differs th row (nI i) = some (th', row') ∧ ∀ u v k l, Bx i u v k l → row' (Cr i u v k l) = DD i (fun a b => row (Cr i u v a b)) k l := by
  obtain ⟨t1, e1, z1⟩ := dfs_zero hi (row := row) 3024 fu 0 th rfl (by rw [fu_s]; omega) (fun y hy => by omega)
  obtain ⟨t2, e2, z2⟩ := dfs_out hi (row := row) 3024 fu 0 t1 rfl (by rw [fu_s]; omega) (fun u v k l hb => z1 _ (Cr_lt hi hb))
  obtain ⟨r3, e3, z3⟩ := dfs_copy (p2 := nI i) (th := t2) 3024 fu 0 row rfl (by rw [fu_s]; omega)
  refine ⟨t2, r3, ?_, fun u v k l hb => ?_⟩
  · simp only [fX6_differs, i_lit]
    exact e1.trans (e2.trans e3)
  · rw [z3, if_pos ⟨Nat.zero_le _, Cr_lt hi hb⟩, z2 u v k l hb, ctr_line hi hb]
