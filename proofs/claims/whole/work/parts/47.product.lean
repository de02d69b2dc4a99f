/-! ===== products ===== -/
theorem sJ_swap (f : Nat → Nat → Int64) (b m : Nat) : ∀ (n a : Nat), sJ (fun x => sJ (f x) b m) a n = sJ (fun y => sJ (fun x => f x y) a n) b m := by
  intro n
  induction n with
  | zero =>
    intro a
    rw [sJ_zero (f := fun y => sJ (fun x => f x y) a 0) m b (fun k _ _ => rfl)]
    rfl
  | succ n ih =>
    intro a
    simp only [sJ]
    rw [ih (a + 1), ← sJ_add]
def wr (y : Nat) : Nat := ((xr y 1 * 15 + xr y 2) * 13 + xr y 3) * 11 + xr y 4
def wc (x : Nat) : Nat := ((xc x 1 * 15 + xc x 2) * 13 + xc x 3) * 11 + xc x 4
theorem wr_sg {x : Nat} (hx : x < 3024) : wr (sg x) = wc x := by
  unfold wr wc
  rw [xr_sg hx (by decide) (by decide), xr_sg hx (by decide) (by decide), xr_sg hx (by decide) (by decide), xr_sg hx (by decide) (by decide)]
theorem wr_lt {x y : Nat} (hx : x < 3024) (hy : y < 3024) : wr x + wr y < 36465 := by
  obtain ⟨a, b, c, d⟩ := xr_le hx
  obtain ⟨a', b', c', d'⟩ := xr_le hy
  unfold wr
  omega
theorem wr_lt1 {x : Nat} (hx : x < 3024) : wr x < 36465 := by have := wr_lt hx hx; omega
theorem wideOf_6 {x : Nat} (hx : x < 3024) : fX6_wideOf (nI x) = some (nI (wr x)) := by
  simp only [fX6_wideOf, i_lit, exponentAt_6 hx (by decide : 1 ≤ 1) (by decide), exponentAt_6 hx (by decide : 1 ≤ 2) (by decide), exponentAt_6 hx (by decide : 1 ≤ 3) (by decide), exponentAt_6 hx (by decide : 1 ≤ 4) (by decide), bd_go, nI_mul, nI_add]
  rfl
/-- exponents below 17, 15, 13, 11 are told by the wide number -/
theorem mix {a1 a2 a3 a4 b1 b2 b3 b4 : Nat} (_h1 : a1 < 17) (h2 : a2 < 15) (h3 : a3 < 13) (h4 : a4 < 11) (_k1 : b1 < 17) (k2 : b2 < 15) (k3 : b3 < 13) (k4 : b4 < 11) (e : ((a1 * 15 + a2) * 13 + a3) * 11 + a4 = ((b1 * 15 + b2) * 13 + b3) * 11 + b4) : a1 = b1 ∧ a2 = b2 ∧ a3 = b3 ∧ a4 = b4 := by
  have e1 : (a1 * 15 + a2) * 13 + a3 = (b1 * 15 + b2) * 13 + b3 := by omega
  have e2 : a1 * 15 + a2 = b1 * 15 + b2 := by omega
  have e3 : a1 = b1 := by omega
  omega
theorem wr_inj {x y : Nat} (hx : x < 3024) (hy : y < 3024) (e : wr x = wr y) : x = y := by
  obtain ⟨a, b, c, d⟩ := xr_le hx
  obtain ⟨a', b', c', d'⟩ := xr_le hy
  obtain ⟨e1, e2, e3, e4⟩ := mix (by omega) (by omega) (by omega) (by omega) (by omega) (by omega) (by omega) (by omega) e
  rw [← ir_xr x, ← ir_xr y, e1, e2, e3, e4]
theorem wc_inj {x y : Nat} (hx : x < 3024) (hy : y < 3024) (e : wc x = wc y) : x = y := by
  obtain ⟨a, b, c, d⟩ := xc4_le hx
  obtain ⟨a', b', c', d'⟩ := xc4_le hy
  obtain ⟨e1, e2, e3, e4⟩ := mix (by omega) (by omega) (by omega) (by omega) (by omega) (by omega) (by omega) (by omega) e
  rw [← ic_xc x, ← ic_xc y, e1, e2, e3, e4]
/-- two twos of cells with one wide sum have the same sums of exponents -/
theorem wc_sum {x y x' y' : Nat} (hx : x < 3024) (hy : y < 3024) (hx' : x' < 3024) (hy' : y' < 3024) (e : wc x + wc y = wc x' + wc y') : xc x 1 + xc y 1 = xc x' 1 + xc y' 1 ∧ xc x 2 + xc y 2 = xc x' 2 + xc y' 2 ∧ xc x 3 + xc y 3 = xc x' 3 + xc y' 3 ∧ xc x 4 + xc y 4 = xc x' 4 + xc y' 4 := by
  obtain ⟨a, b, c, d⟩ := xc4_le hx
  obtain ⟨a', b', c', d'⟩ := xc4_le hx'
  obtain ⟨f, g, h, k⟩ := xc4_le hy
  obtain ⟨f', g', h', k'⟩ := xc4_le hy'
  unfold wc at e
  exact mix (by omega) (by omega) (by omega) (by omega) (by omega) (by omega) (by omega) (by omega) (by omega)
theorem wc_one {x y z : Nat} (hx : x < 3024) (hy : y < 3024) (hz : z < 3024) (e : wc x + wc y = wc z) : xc x 1 + xc y 1 = xc z 1 ∧ xc x 2 + xc y 2 = xc z 2 ∧ xc x 3 + xc y 3 = xc z 3 ∧ xc x 4 + xc y 4 = xc z 4 := by
  have h0 : wc 0 = 0 := by decide
  have := wc_sum hx hy hz (by decide : 0 < 3024) (by rw [h0]; omega)
  have z1 : xc 0 1 = 0 := by decide
  have z2 : xc 0 2 = 0 := by decide
  have z3 : xc 0 3 = 0 := by decide
  have z4 : xc 0 4 = 0 := by decide
  omega
def pt (s p : Nat → Int64) (z x y : Nat) : Int64 := if wr x + wr y = z then s x * p y else 0
theorem pt_z1 {s p : Nat → Int64} {z x y : Nat} (h : s x = 0) : pt s p z x y = 0 := by
  unfold pt
  rw [h]
  split
  · grind
  · rfl
theorem pt_z2 {s p : Nat → Int64} {z x y : Nat} (h : p y = 0) : pt s p z x y = 0 := by
  unfold pt
  rw [h]
  split
  · grind
  · rfl
theorem prod_L32 {s p : Nat → Int64} {x : Nat} (hx : x < 3024) {rec : (Nat → Int64) → Int32 → Option (Nat → Int64)} : ∀ (n fl y : Nat) (wide : Nat → Int64), y + n = 3024 → n < fl → ∃ wide', fX6_findProduct_L32 p s rec fl wide (nI x) (nI y) = rec wide' (nI (x + 1)) ∧ ∀ z, z < 36465 → wide' z = wide z + sJ (pt s p z x) y n := by
  intro n
  induction n with
  | zero =>
    intro fl y wide hy hf
    obtain ⟨fl, rfl⟩ : ∃ q, fl = q + 1 := ⟨fl - 1, by omega⟩
    refine ⟨wide, ?_, fun z _ => by simp only [sJ]; grind⟩
    simp only [fX6_findProduct_L32, i_lit, nmE, nI_add]
    rw [if_pos ((nI_leI (by omega) (by omega)).mpr (by omega))]
  | succ n ih =>
    intro fl y wide hy hf
    obtain ⟨fl, rfl⟩ : ∃ q, fl = q + 1 := ⟨fl - 1, by omega⟩
    have hyl : y < 3024 := by omega
    simp only [fX6_findProduct_L32, i_lit, nmE, nI_add]
    rw [if_neg (fun q => by rw [nI_leI (by omega) (by omega)] at q; omega), gJ_at hx (by decide), gJ_at hyl (by decide)]
    simp only [lgz]
    by_cases h0 : s x = 0
    · rw [if_pos h0]
      refine ⟨wide, rfl, fun z _ => ?_⟩
      rw [sJ_zero (n + 1) y (fun t _ _ => pt_z1 h0)]
      grind
    · rw [if_neg h0]
      by_cases h1 : p y = 0
      · rw [if_pos h1]
        obtain ⟨w', e1, e2⟩ := ih fl (y + 1) wide (by omega) (by omega)
        refine ⟨w', e1, fun z hz => ?_⟩
        rw [e2 z hz]
        simp only [sJ]
        rw [pt_z2 h1]
        grind
      · rw [if_neg h1, wideOf_6 hx, bd_some, wideOf_6 hyl, bd_some, nI_add, gJ_at (wr_lt hx hyl) (by decide), gJ_at hx (by decide), gJ_at hyl (by decide), pJ_at (wr_lt hx hyl) (by decide)]
        obtain ⟨w', e1, e2⟩ := ih fl (y + 1) (vp_updL wide (wr x + wr y) (wide (wr x + wr y) + s x * p y)) (by omega) (by omega)
        refine ⟨w', e1, fun z hz => ?_⟩
        rw [e2 z hz, updL_at]
        simp only [sJ]
        by_cases c : z = wr x + wr y
        · rw [if_pos c, show pt s p z x y = s x * p y from if_pos c.symm, c]
          grind
        · rw [if_neg c, show pt s p z x y = 0 from if_neg (fun q => c q.symm)]
          grind
theorem prod_L23 {s p : Nat → Int64} : ∀ (n fl x : Nat) (wide : Nat → Int64), x + n = 3024 → n < fl → ∃ wide', fX6_findProduct_L23 p s fl wide (nI x) = some wide' ∧ ∀ z, z < 36465 → wide' z = wide z + sJ (fun t => sJ (pt s p z t) 0 3024) x n := by
  intro n
  induction n with
  | zero =>
    intro fl x wide hx hf
    obtain ⟨fl, rfl⟩ : ∃ q, fl = q + 1 := ⟨fl - 1, by omega⟩
    refine ⟨wide, ?_, fun z _ => by simp only [sJ]; grind⟩
    simp only [fX6_findProduct_L23, i_lit]
    rw [if_pos ((nI_leI (by omega) (by omega)).mpr (by omega))]
  | succ n ih =>
    intro fl x wide hx hf
    obtain ⟨fl, rfl⟩ : ∃ q, fl = q + 1 := ⟨fl - 1, by omega⟩
    obtain ⟨w1, e1, d1⟩ := prod_L32 (s := s) (p := p) (by omega : x < 3024) (rec := fX6_findProduct_L23 p s fl) 3024 fu 0 wide rfl (by rw [fu_s]; omega)
    obtain ⟨w2, e2, d2⟩ := ih fl (x + 1) w1 (by omega) (by omega)
    refine ⟨w2, ?_, fun z hz => ?_⟩
    · simp only [fX6_findProduct_L23, i_lit]
      rw [if_neg (fun q => by rw [nI_leI (by omega) (by omega)] at q; omega), e1]
      exact e2
    · rw [d2 z hz, d1 z hz, show sJ (fun t => sJ (pt s p z t) 0 3024) x (n + 1) = sJ (pt s p z x) 0 3024 + sJ (fun t => sJ (pt s p z t) 0 3024) (x + 1) n from rfl]
      grind
theorem prod_L2 {s p : Nat → Int64} : ∀ (n fl x : Nat) (wide : Nat → Int64), x + n = 36465 → n < fl → (∀ y, y < x → wide y = 0) → ∃ wide', fX6_findProduct_L2 p s fl wide (nI x) = fX6_findProduct_L23 p s fu wide' (nI 0) ∧ ∀ y, y < 36465 → wide' y = 0 := by
  intro n
  induction n with
  | zero =>
    intro fl x wide hx hf h
    obtain ⟨fl, rfl⟩ : ∃ q, fl = q + 1 := ⟨fl - 1, by omega⟩
    refine ⟨wide, ?_, fun y hy => h y (by omega)⟩
    simp only [fX6_findProduct_L2, i_lit]
    rw [if_pos ((nI_leI (by omega) (by omega)).mpr (by omega))]
  | succ n ih =>
    intro fl x wide hx hf h
    obtain ⟨fl, rfl⟩ : ∃ q, fl = q + 1 := ⟨fl - 1, by omega⟩
    obtain ⟨w', e1, e2⟩ := ih fl (x + 1) (vp_updL wide x 0) (by omega) (by omega) (fun y hy => by
      rw [updL_at]
      by_cases c : y = x
      · rw [if_pos c]
      · rw [if_neg c]; exact h y (by omega))
    refine ⟨w', ?_, e2⟩
    simp only [fX6_findProduct_L2, i_lit, nmE, nI_add]
    rw [if_neg (fun q => by rw [nI_leI (by omega) (by omega)] at q; omega), pJ_at (by omega) (by decide)]
    exact e1
theorem product_6 (p s wide : Nat → Int64) : ∃ wide', fX6_findProduct p s wide = some wide' ∧ ∀ z, z < 36465 → wide' z = sJ (fun t => sJ (pt s p z t) 0 3024) 0 3024 := by
  obtain ⟨w1, e1, d1⟩ := prod_L2 (s := s) (p := p) 36465 fu 0 wide rfl (by rw [fu_s]; omega) (fun y hy => by omega)
  obtain ⟨w2, e2, d2⟩ := prod_L23 (s := s) (p := p) 3024 fu 0 w1 rfl (by rw [fu_s]; omega)
  refine ⟨w2, ?_, fun z hz => ?_⟩
  · simp only [fX6_findProduct, i_lit]
    exact e1.trans e2
  · rw [d2 z hz, d1 z hz]
    grind
theorem keep_L44 {next wide : Nat → Int64} : ∀ (n fl z : Nat) (b : Bool), z + n = 36465 → n < fl → ∃ b', fX6_keeps_L44 fl next wide (fB b) (nI z) = some (fB b', next, wide) ∧ (b' = true ↔ b = true ∧ ∀ t, z ≤ t → t < 36465 → wide t = 0) := by
  intro n
  induction n with
  | zero =>
    intro fl z b hz hf
    obtain ⟨fl, rfl⟩ : ∃ q, fl = q + 1 := ⟨fl - 1, by omega⟩
    refine ⟨b, ?_, ⟨fun q => ⟨q, fun t a c => by omega⟩, fun q => q.1⟩⟩
    simp only [fX6_keeps_L44, i_lit, bz_b]
    rw [if_pos ((nI_leI (by omega) (by omega)).mpr (by omega))]
  | succ n ih =>
    intro fl z b hz hf
    obtain ⟨fl, rfl⟩ : ∃ q, fl = q + 1 := ⟨fl - 1, by omega⟩
    simp only [fX6_keeps_L44, i_lit, nmE, nI_add]
    rw [if_neg (fun q => by rw [nI_leI (by omega) (by omega)] at q; omega)]
    cases b with
    | false =>
      rw [if_pos fB_f]
      obtain ⟨b', e1, e2⟩ := ih fl (z + 1) false (by omega) (by omega)
      refine ⟨b', e1, ?_⟩
      rw [e2]
      constructor
      · rintro ⟨q, _⟩; exact absurd q (by decide)
      · rintro ⟨q, _⟩; exact absurd q (by decide)
    | true =>
      rw [if_neg fB_n, gJ_at (by omega) (by decide)]
      simp only [lgz]
      by_cases h0 : wide z = 0
      · rw [if_pos h0]
        obtain ⟨b', e1, e2⟩ := ih fl (z + 1) true (by omega) (by omega)
        refine ⟨b', e1, ?_⟩
        rw [e2]
        constructor
        · rintro ⟨_, h⟩
          refine ⟨by trivial, fun t t1 t2 => ?_⟩
          by_cases c : t = z
          · rw [c]; exact h0
          · exact h t (by omega) t2
        · rintro ⟨_, h⟩
          exact ⟨by trivial, fun t t1 t2 => h t (by omega) t2⟩
      · rw [if_neg h0]
        obtain ⟨b', e1, e2⟩ := ih fl (z + 1) false (by omega) (by omega)
        refine ⟨b', e1, ?_⟩
        rw [e2]
        constructor
        · rintro ⟨q, _⟩; exact absurd q (by decide)
        · rintro ⟨_, h⟩; exact absurd (h z (Nat.le_refl _) (by omega)) h0
theorem keep_L2 : ∀ (n fl x : Nat) (next wide : Nat → Int64), x + n = 3024 → n < fl → ∃ next' wide', fX6_keeps_L2 fl next wide (nI x) = fX6_keeps_L44 fu next' wide' (nI 1) (nI 0) ∧ (∀ y, y < x → next' y = next y) ∧ (∀ y, x ≤ y → y < 3024 → next' y = wide (wr y)) ∧ (∀ y, x ≤ y → y < 3024 → wide' (wr y) = 0) ∧ ∀ z, (∀ y, x ≤ y → y < 3024 → wr y ≠ z) → wide' z = wide z := by
  intro n
  induction n with
  | zero =>
    intro fl x next wide hx hf
    obtain ⟨fl, rfl⟩ : ∃ q, fl = q + 1 := ⟨fl - 1, by omega⟩
    refine ⟨next, wide, ?_, fun _ _ => rfl, fun y a b => by omega, fun y a b => by omega, fun _ _ => rfl⟩
    simp only [fX6_keeps_L2, i_lit]
    rw [if_pos ((nI_leI (by omega) (by omega)).mpr (by omega))]
  | succ n ih =>
    intro fl x next wide hx hf
    obtain ⟨fl, rfl⟩ : ∃ q, fl = q + 1 := ⟨fl - 1, by omega⟩
    have hxl : x < 3024 := by omega
    obtain ⟨n', w', e1, d1, d2, d3, d4⟩ := ih fl (x + 1) (vp_updL next x (wide (wr x))) (vp_updL wide (wr x) 0) (by omega) (by omega)
    refine ⟨n', w', ?_, fun y hy => ?_, fun y y1 y2 => ?_, fun y y1 y2 => ?_, fun z hz => ?_⟩
    · simp only [fX6_keeps_L2, i_lit, nmE, nI_add, wideOf_6 hxl, bd_go]
      rw [if_neg (fun q => by rw [nI_leI (by omega) (by omega)] at q; omega), gJ_at (wr_lt1 hxl) (by decide), pJ_at hxl (by decide), pJ_at (wr_lt1 hxl) (by decide)]
      exact e1
    · rw [d1 y (by omega), updL_at, if_neg (by omega)]
    · by_cases c : y = x
      · rw [c, d1 x (by omega), updL_at, if_pos rfl]
      · rw [d2 y (by omega) y2, updL_at, if_neg (fun q => c (wr_inj y2 hxl q))]
    · by_cases c : y = x
      · rw [c, d4 (wr x) (fun t t1 t2 q => by have := wr_inj t2 hxl q; omega), updL_at, if_pos rfl]
      · exact d3 y (by omega) y2
    · rw [d4 z (fun y y1 y2 => hz y (by omega) y2), updL_at, if_neg (fun q => hz x (Nat.le_refl _) hxl q.symm)]
theorem keeps_6 (next wide : Nat → Int64) : ∃ b next' wide', fX6_keeps next wide = some (fB b, next', wide') ∧ (∀ y, y < 3024 → next' y = wide (wr y)) ∧ (b = true ↔ ∀ z, z < 36465 → (∀ y, y < 3024 → wr y ≠ z) → wide z = 0) := by
  obtain ⟨n', w', e1, _, d2, d3, d4⟩ := keep_L2 3024 fu 0 next wide rfl (by rw [fu_s]; omega)
  obtain ⟨b, e2, hb⟩ := keep_L44 (next := n') (wide := w') 36465 fu 0 true rfl (by rw [fu_s]; omega)
  refine ⟨b, n', w', ?_, fun y hy => d2 y (Nat.zero_le _) hy, ?_⟩
  · simp only [fX6_keeps, i_lit]
    exact e1.trans e2
  · rw [hb]
    constructor
    · rintro ⟨_, h⟩ z hz hne
      rw [← d4 z (fun y _ y2 => hne y y2)]
      exact h z (Nat.zero_le _) hz
    · intro h
      refine ⟨rfl, fun t _ ht => ?_⟩
      by_cases c : ∃ y, y < 3024 ∧ wr y = t
      · obtain ⟨y, hy, e⟩ := c
        rw [← e]
        exact d3 y (Nat.zero_le _) hy
      · have c' : ∀ y, y < 3024 → wr y ≠ t := fun y hy e => c ⟨y, hy, e⟩
        rw [d4 t (fun y _ y2 => c' y y2)]
        exact h t ht c'
/-! the class's product -/
theorem bp_L31 {one other : Nat → Int64} {s : Nat} (hs : s < 3024) {f : Int64} {rec : (Nat → Int64) → Int32 → Option (Nat → Int64)} : ∀ (n fl k : Nat) (cell : Nat → Int64), k + n + s = 3024 → n < fl → ∃ cell', fX2_becomeProduct_L31 one other rec fl cell (nI s) f (nI k) = rec cell' (nI (s + 1)) ∧ ∀ z, z < 3024 → cell' z = cell z + (if s + k ≤ z then f * one (z - s) else 0) := by
  intro n
  induction n with
  | zero =>
    intro fl k cell hk hf
    obtain ⟨fl, rfl⟩ : ∃ q, fl = q + 1 := ⟨fl - 1, by omega⟩
    refine ⟨cell, ?_, fun z hz => by rw [if_neg (by omega)]; grind⟩
    simp only [fX2_becomeProduct_L31, i_lit, nmE, nI_add]
    rw [i_dif (by omega), if_pos ((nI_leI (by omega) (by omega)).mpr (by omega))]
  | succ n ih =>
    intro fl k cell hk hf
    obtain ⟨fl, rfl⟩ : ∃ q, fl = q + 1 := ⟨fl - 1, by omega⟩
    obtain ⟨c', e1, e2⟩ := ih fl (k + 1) (vp_updL cell (k + s) (cell (k + s) + f * one k)) (by omega) (by omega)
    refine ⟨c', ?_, fun z hz => ?_⟩
    · simp only [fX2_becomeProduct_L31, i_lit, nmE, nI_add]
      rw [i_dif (by omega), if_neg (fun q => by rw [nI_leI (by omega) (by omega)] at q; omega), gJ_at (by omega) (by decide), gJ_at (by omega) (by decide), pJ_at (by omega) (by decide)]
      exact e1
    · rw [e2 z hz, updL_at]
      by_cases c : z = k + s
      · rw [if_pos c, if_neg (by omega), if_pos (by omega), c, show k + s - s = k by omega]
        grind
      · rw [if_neg c]
        by_cases c2 : s + (k + 1) ≤ z
        · rw [if_pos c2, if_pos (by omega)]
        · rw [if_neg c2, if_neg (by omega)]
def qt (one other : Nat → Int64) (z s : Nat) : Int64 := if s ≤ z then other s * one (z - s) else 0
theorem bp_L6 {one other : Nat → Int64} : ∀ (n fl s : Nat) (cell : Nat → Int64), s + n = 3024 → n < fl → ∃ cell', fX2_becomeProduct_L6 one other fl cell (nI s) = some cell' ∧ ∀ z, z < 3024 → cell' z = cell z + sJ (qt one other z) s n := by
  intro n
  induction n with
  | zero =>
    intro fl s cell hs hf
    obtain ⟨fl, rfl⟩ : ∃ q, fl = q + 1 := ⟨fl - 1, by omega⟩
    refine ⟨cell, ?_, fun z hz => by simp only [sJ]; grind⟩
    simp only [fX2_becomeProduct_L6, i_lit]
    rw [if_pos ((nI_leI (by omega) (by omega)).mpr (by omega))]
  | succ n ih =>
    intro fl s cell hs hf
    obtain ⟨fl, rfl⟩ : ∃ q, fl = q + 1 := ⟨fl - 1, by omega⟩
    have hsl : s < 3024 := by omega
    simp only [fX2_becomeProduct_L6, i_lit, nmE, nI_add]
    rw [if_neg (fun q => by rw [nI_leI (by omega) (by omega)] at q; omega), gJ_at hsl (by decide)]
    simp only [lgz]
    by_cases h0 : other s = 0
    · rw [if_pos h0]
      obtain ⟨c', e1, e2⟩ := ih fl (s + 1) cell (by omega) (by omega)
      refine ⟨c', e1, fun z hz => ?_⟩
      rw [e2 z hz]
      simp only [sJ]
      have : qt one other z s = 0 := by
        unfold qt
        rw [h0]
        split
        · grind
        · rfl
      rw [this]
      grind
    · rw [if_neg h0]
      obtain ⟨c1, e1, d1⟩ := bp_L31 (one := one) (other := other) hsl (f := other s) (rec := fX2_becomeProduct_L6 one other fl) (3024 - s) fu 0 cell (by omega) (by rw [fu_s]; omega)
      obtain ⟨c2, e2, d2⟩ := ih fl (s + 1) c1 (by omega) (by omega)
      refine ⟨c2, by rw [e1]; exact e2, fun z hz => ?_⟩
      rw [d2 z hz, d1 z hz]
      simp only [sJ]
      rw [show (if s + 0 ≤ z then other s * one (z - s) else 0) = qt one other z s from rfl]
      grind
theorem product_2 (cell one other : Nat → Int64) : ∃ cell', fX2_becomeProduct cell one other = some cell' ∧ ∀ z, z < 3024 → cell' z = sJ (qt one other z) 0 3024 := by
  obtain ⟨c1, e1, d1⟩ := clear_2 cell
  obtain ⟨c2, e2, d2⟩ := bp_L6 (one := one) (other := other) 3024 fu 0 c1 rfl (by rw [fu_s]; omega)
  refine ⟨c2, ?_, fun z hz => ?_⟩
  · simp only [fX2_becomeProduct, e1, bd_go, i_lit]
    exact e2
  · rw [d2 z hz, d1 z hz]
    grind
/-! both alike -/
/-- the wide number of the product, by the class's cells -/
def ptc (g p : Nat → Int64) (z x y : Nat) : Int64 := if wc x + wc y = z then g x * p y else 0
theorem wide_c {g p s q : Nat → Int64} (h1 : PR g s) (h2 : PR p q) (z : Nat) : sJ (fun t => sJ (pt s q z t) 0 3024) 0 3024 = sJ (fun t => sJ (ptc g p z t) 0 3024) 0 3024 := by
  rw [sJ_re]
  refine sJ_congr _ _ (fun x _ hx => ?_)
  rw [sJ_re]
  refine sJ_congr _ _ (fun y _ hy => ?_)
  show pt s q z (sg x) (sg y) = ptc g p z x y
  unfold pt ptc
  rw [wr_sg (by omega), wr_sg (by omega), pr_sg h1 (by omega), pr_sg h2 (by omega)]
theorem room_eq {g p : Nat → Int64} {A B : Nat → Nat} (hA : Mx g A) (hB : Mx p B) (hr : ∀ j, 1 ≤ j → j ≤ 4 → A j + B j ≤ 9 - j) {x y z : Nat} (hx : x < 3024) (hy : y < 3024) (hz : z < 3024) (hg : g x ≠ 0) (hp : p y ≠ 0) : (wc x + wc y = wc z) ↔ x + y = z := by
  have a1 := hA.1 x hx hg 1 (by decide) (by decide)
  have a2 := hA.1 x hx hg 2 (by decide) (by decide)
  have a3 := hA.1 x hx hg 3 (by decide) (by decide)
  have a4 := hA.1 x hx hg 4 (by decide) (by decide)
  have b1 := hB.1 y hy hp 1 (by decide) (by decide)
  have b2 := hB.1 y hy hp 2 (by decide) (by decide)
  have b3 := hB.1 y hy hp 3 (by decide) (by decide)
  have b4 := hB.1 y hy hp 4 (by decide) (by decide)
  have r1 := hr 1 (by decide) (by decide)
  have r2 := hr 2 (by decide) (by decide)
  have r3 := hr 3 (by decide) (by decide)
  have r4 := hr 4 (by decide) (by decide)
  have e1 : xc x 1 + 9 * xc x 2 + 72 * xc x 3 + 504 * xc x 4 = x := ic_xc x
  have e2 : xc y 1 + 9 * xc y 2 + 72 * xc y 3 + 504 * xc y 4 = y := ic_xc y
  have e3 : xc z 1 + 9 * xc z 2 + 72 * xc z 3 + 504 * xc z 4 = z := ic_xc z
  constructor
  · intro e
    have := wc_one hx hy hz e
    omega
  · intro e
    obtain ⟨x1, x2, x3, x4⟩ := xc_ic (by omega : xc x 1 + xc y 1 ≤ 8) (by omega : xc x 2 + xc y 2 ≤ 7) (by omega : xc x 3 + xc y 3 ≤ 6) (by omega : xc x 4 + xc y 4 ≤ 5)
    have ez : ic (xc x 1 + xc y 1) (xc x 2 + xc y 2) (xc x 3 + xc y 3) (xc x 4 + xc y 4) = z := by unfold ic; omega
    rw [ez] at x1 x2 x3 x4
    unfold wc
    rw [x1, x2, x3, x4]
    omega
theorem mul_z1 {a b : Int64} (h : a = 0) : a * b = 0 := by rw [h]; grind
theorem mul_z2 {a b : Int64} (h : b = 0) : a * b = 0 := by rw [h]; grind
theorem room_sum {g p : Nat → Int64} {A B : Nat → Nat} (hA : Mx g A) (hB : Mx p B) (hr : ∀ j, 1 ≤ j → j ≤ 4 → A j + B j ≤ 9 - j) {z : Nat} (hz : z < 3024) : sJ (fun t => sJ (ptc g p (wc z) t) 0 3024) 0 3024 = sJ (qt g p z) 0 3024 := by
  rw [sJ_swap]
  refine sJ_congr _ _ (fun y _ hy => ?_)
  have hyl : y < 3024 := by omega
  rw [sJ_congr (g := fun x => if x + y = z then g x * p y else 0) 3024 0 (fun x _ hx => by
    show ptc g p (wc z) x y = _
    unfold ptc
    by_cases h0 : g x = 0
    · rw [mul_z1 h0]; split <;> split <;> rfl
    · by_cases h1 : p y = 0
      · rw [mul_z2 h1]; split <;> split <;> rfl
      · have := room_eq hA hB hr (by omega : x < 3024) hyl hz h0 h1
        by_cases c : x + y = z
        · rw [if_pos c, if_pos (this.mpr c)]
        · rw [if_neg c, if_neg (fun q => c (this.mp q))])]
  unfold qt
  by_cases c : y ≤ z
  · rw [if_pos c, sJ_pick (x0 := z - y) 3024 0 (Nat.zero_le _) (by omega), sJ_zero 3024 0 (fun x _ _ => by
      show (if x = z - y then (0 : Int64) else if x + y = z then g x * p y else 0) = 0
      by_cases c2 : x = z - y
      · rw [if_pos c2]
      · rw [if_neg c2, if_neg (by omega)])]
    rw [if_pos (by omega : z - y + y = z)]
    grind
  · rw [if_neg c]
    exact sJ_zero _ _ (fun x _ _ => if_neg (by omega))
theorem argmax (K : Nat → Nat) (P : Nat → Prop) : ∀ n, (∃ x, x < n ∧ P x) → ∃ x, x < n ∧ P x ∧ ∀ y, y < n → P y → K y ≤ K x := by
  intro n
  induction n with
  | zero => rintro ⟨x, hx, _⟩; omega
  | succ n ih =>
    rintro ⟨x, hx, hp⟩
    by_cases c : ∃ y, y < n ∧ P y
    · obtain ⟨m, m1, m2, m3⟩ := ih c
      by_cases c2 : P n ∧ K m < K n
      · refine ⟨n, by omega, c2.1, fun y hy py => ?_⟩
        by_cases e : y = n
        · rw [e]; exact Nat.le_refl _
        · have := m3 y (by omega) py; omega
      · refine ⟨m, by omega, m2, fun y hy py => ?_⟩
        by_cases e : y = n
        · rw [e] at py ⊢
          exact Nat.le_of_not_lt (fun q => c2 ⟨py, q⟩)
        · exact m3 y (by omega) py
    · have e : x = n := by
        apply Classical.byContradiction
        intro q
        exact c ⟨x, by omega, hp⟩
      rw [e] at hp
      refine ⟨n, by omega, hp, fun y hy py => ?_⟩
      by_cases e : y = n
      · rw [e]; exact Nat.le_refl _
      · exact absurd ⟨y, by omega, py⟩ c
theorem wc_lt {x : Nat} (hx : x < 3024) : wc x < 40000 := by
  obtain ⟨a, b, c, d⟩ := xc4_le hx
  unfold wc
  omega
/-- where two leading ones meet there is nothing else -/
theorem lead {g p : Nat → Int64} {A B : Nat → Nat} (hA : Mx g A) (hB : Mx p B) (hg : ∃ x, x < 3024 ∧ g x ≠ 0) (hp : ∃ x, x < 3024 ∧ p x ≠ 0) {j : Nat} (j1 : 1 ≤ j) (j4 : j ≤ 4) : ∃ x y, x < 3024 ∧ y < 3024 ∧ g x ≠ 0 ∧ p y ≠ 0 ∧ xc x j = A j ∧ xc y j = B j ∧ sJ (fun t => sJ (ptc g p (wc x + wc y) t) 0 3024) 0 3024 = g x * p y := by
  obtain ⟨x, hx, gx, mx⟩ := argmax (fun t => xc t j * 40000 + wc t) (fun t => g t ≠ 0) 3024 hg
  obtain ⟨y, hy, py, my⟩ := argmax (fun t => xc t j * 40000 + wc t) (fun t => p t ≠ 0) 3024 hp
  have hxj := hA.1 x hx gx j j1 j4
  have hyj := hB.1 y hy py j j1 j4
  have wx := wc_lt hx
  have wy := wc_lt hy
  refine ⟨x, y, hx, hy, gx, py, ?_, ?_, ?_⟩
  · rcases hA.2 j j1 j4 with e | ⟨t, t1, t2, t3⟩
    · omega
    · have := mx t t1 t2
      omega
  · rcases hB.2 j j1 j4 with e | ⟨t, t1, t2, t3⟩
    · omega
    · have := my t t1 t2
      omega
  · have key : ∀ s t, s < 3024 → t < 3024 → g s ≠ 0 → p t ≠ 0 → wc s + wc t = wc x + wc y → s = x ∧ t = y := by
      intro s t hs ht gs pt_ e
      have q := wc_sum hs ht hx hy e
      have m1 := mx s hs gs
      have m2 := my t ht pt_
      have ej : xc s j + xc t j = xc x j + xc y j := by
        rcases (show j = 1 ∨ j = 2 ∨ j = 3 ∨ j = 4 by omega) with rfl | rfl | rfl | rfl
        · exact q.1
        · exact q.2.1
        · exact q.2.2.1
        · exact q.2.2.2
      have ws := wc_lt hs
      have wt := wc_lt ht
      have e1 : wc s = wc x := by omega
      have e2 : wc t = wc y := by omega
      exact ⟨wc_inj hs hx e1, wc_inj ht hy e2⟩
    have zero : ∀ s t, s < 3024 → t < 3024 → ¬ (s = x ∧ t = y) → ptc g p (wc x + wc y) s t = 0 := by
      intro s t hs ht hne
      unfold ptc
      by_cases c : wc s + wc t = wc x + wc y
      · rw [if_pos c]
        by_cases g0 : g s = 0
        · exact mul_z1 g0
        · by_cases p0 : p t = 0
          · exact mul_z2 p0
          · exact absurd (key s t hs ht g0 p0 c) hne
      · exact if_neg c
    rw [sJ_pick (x0 := x) 3024 0 (Nat.zero_le _) (by omega), sJ_zero (f := fun t => if t = x then 0 else sJ (ptc g p (wc x + wc y) t) 0 3024) 3024 0 (fun s _ hs => by
      show (if s = x then (0 : Int64) else sJ (ptc g p (wc x + wc y) s) 0 3024) = 0
      by_cases c : s = x
      · rw [if_pos c]
      · rw [if_neg c]
        exact sJ_zero _ _ (fun t _ ht => zero s t (by omega) (by omega) (fun q => c q.1)))]
    rw [sJ_pick (x0 := y) 3024 0 (Nat.zero_le _) (by omega), sJ_zero (f := fun t => if t = y then 0 else ptc g p (wc x + wc y) x t) 3024 0 (fun t _ ht => by
      show (if t = y then (0 : Int64) else ptc g p (wc x + wc y) x t) = 0
      by_cases c : t = y
      · rw [if_pos c]
      · rw [if_neg c]
        exact zero x t hx (by omega) (fun q => c q.2))]
    rw [show ptc g p (wc x + wc y) x y = g x * p y from if_pos rfl]
    grind
