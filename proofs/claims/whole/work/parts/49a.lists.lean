/-! ===== plain numbers of cells; lists in order; expansions ===== -/
def pl (x : Nat) : Nat := plN (opm (xc x))
theorem xc9 {x : Nat} (hx : x < 3024) : ∀ i, 1 ≤ i → i ≤ 9 → xc x i ≤ 9 - i := fun _ a b => xc_le hx a b
theorem pl_lt {x : Nat} (hx : x < 3024) : pl x < 1000000000 := plN_lt (opm_rg (xc9 hx))
theorem pl_inj {x y : Nat} (hx : x < 3024) (hy : y < 3024) (e : pl x = pl y) : x = y := by
  have h := plN_inj (opm_rg (xc9 hx)) (opm_rg (xc9 hy)) e
  have k : ∀ j, 1 ≤ j → j ≤ 4 → xc x j = xc y j := fun j j1 j4 => by
    rw [← code_opm (xc9 hx) j j1 (by omega), ← code_opm (xc9 hy) j j1 (by omega)]
    exact cnt_congr h j1 (by omega)
  rw [← ic_xc x, ← ic_xc y, k 1 (by decide) (by decide), k 2 (by decide) (by decide), k 3 (by decide) (by decide), k 4 (by decide) (by decide)]
/-- a list in order: plain numbers of the cells of a set, with a number beside each -/
def SrF (f : Nat → Int32) (t : Nat → Int64) (n : Nat) (A : Nat → Prop) (E : Nat → Int64) (F : Nat → Nat) : Prop := (∀ j, j < n → f j = nI (F j)) ∧ (∀ i j, i < j → j < n → F i < F j) ∧ (∀ j, j < n → ∃ x, x < 3024 ∧ A x ∧ F j = pl x ∧ t j = E x) ∧ ∀ x, x < 3024 → A x → ∃ j, j < n ∧ F j = pl x
def SrT (f : Nat → Int32) (t : Nat → Int64) (n : Nat) (A : Nat → Prop) (E : Nat → Int64) : Prop := ∃ F, SrF f t n A E F
theorem SrF.lt {f : Nat → Int32} {t : Nat → Int64} {n : Nat} {A : Nat → Prop} {E : Nat → Int64} {F : Nat → Nat} (h : SrF f t n A E F) {j : Nat} (hj : j < n) : F j < 1000000000 := by
  obtain ⟨x, hx, _, e, _⟩ := h.2.2.1 j hj
  rw [e]; exact pl_lt hx
theorem SrT.congr {f : Nat → Int32} {t : Nat → Int64} {n : Nat} {A B : Nat → Prop} {E G : Nat → Int64} (h : SrT f t n A E) (h1 : ∀ x, x < 3024 → (A x ↔ B x)) (h2 : ∀ x, x < 3024 → A x → E x = G x) : SrT f t n B G := by
  obtain ⟨F, a, b, c, d⟩ := h
  refine ⟨F, a, b, fun j hj => ?_, fun x hx hB => d x hx ((h1 x hx).mpr hB)⟩
  obtain ⟨x, hx, q1, q2, q3⟩ := c j hj
  exact ⟨x, hx, (h1 x hx).mp q1, q2, by rw [q3]; exact h2 x hx q1⟩
theorem SrT_0 (f : Nat → Int32) (t : Nat → Int64) {A : Nat → Prop} (hA : ∀ x, x < 3024 → ¬ A x) (E : Nat → Int64) : SrT f t 0 A E := ⟨fun _ => 0, fun j hj => by omega, fun i j _ hj => by omega, fun j hj => by omega, fun x hx q => absurd q (hA x hx)⟩
theorem inS_lt {α : Type} {f : Nat → α} {p : Nat} {v : α} {j : Nat} (h : j < p) : inS f p v j = f j := if_pos h
theorem inS_eq {α : Type} {f : Nat → α} {p : Nat} {v : α} : inS f p v p = v := by unfold inS; rw [if_neg (Nat.lt_irrefl _), if_pos rfl]
theorem inS_gt {α : Type} {f : Nat → α} {p : Nat} {v : α} {j : Nat} (h : p < j) : inS f p v j = f (j - 1) := by unfold inS; rw [if_neg (by omega), if_neg (by omega)]
theorem SrF_ins {f : Nat → Int32} {t : Nat → Int64} {n : Nat} {A : Nat → Prop} {E : Nat → Int64} {F : Nat → Nat} (h : SrF f t n A E F) {x : Nat} (hx : x < 3024) {p : Nat} (hp : p ≤ n) (h1 : ∀ j, j < p → F j < pl x) (h2 : ∀ j, p ≤ j → j < n → pl x < F j) {f' : Nat → Int32} {t' : Nat → Int64} (hf : ∀ j, j ≤ n → f' j = inS f p (nI (pl x)) j) (ht : ∀ j, j ≤ n → t' j = inS t p (E x) j) : SrT f' t' (n + 1) (fun y => A y ∨ y = x) E := by
  obtain ⟨a, b, c, d⟩ := h
  refine ⟨inS F p (pl x), fun j hj => ?_, fun i j hij hj => ?_, fun j hj => ?_, fun y hy hA => ?_⟩
  · rw [hf j (by omega)]
    by_cases c1 : j < p
    · rw [inS_lt c1, inS_lt c1]; exact a j (by omega)
    · by_cases c2 : j = p
      · rw [c2, inS_eq, inS_eq]
      · rw [inS_gt (by omega), inS_gt (by omega)]; exact a (j - 1) (by omega)
  · by_cases c1 : j < p
    · rw [inS_lt (by omega), inS_lt c1]; exact b i j hij (by omega)
    · by_cases c2 : j = p
      · rw [c2, inS_eq, inS_lt (by omega)]; exact h1 i (by omega)
      · rw [inS_gt (by omega : p < j)]
        by_cases c3 : i < p
        · rw [inS_lt c3]
          have q1 := h1 i c3
          have q2 := h2 (j - 1) (by omega) (by omega)
          omega
        · by_cases c4 : i = p
          · rw [c4, inS_eq]; exact h2 (j - 1) (by omega) (by omega)
          · rw [inS_gt (by omega : p < i)]; exact b (i - 1) (j - 1) (by omega) (by omega)
  · rw [ht j (by omega)]
    by_cases c1 : j < p
    · rw [inS_lt c1, inS_lt c1]
      obtain ⟨y, y1, y2, y3, y4⟩ := c j (by omega)
      exact ⟨y, y1, Or.inl y2, y3, y4⟩
    · by_cases c2 : j = p
      · rw [c2, inS_eq, inS_eq]
        exact ⟨x, hx, Or.inr rfl, rfl, rfl⟩
      · rw [inS_gt (by omega), inS_gt (by omega)]
        obtain ⟨y, y1, y2, y3, y4⟩ := c (j - 1) (by omega)
        exact ⟨y, y1, Or.inl y2, y3, y4⟩
  · rcases hA with hA | hA
    · obtain ⟨j, j1, j2⟩ := d y hy hA
      by_cases c1 : j < p
      · exact ⟨j, by omega, by rw [inS_lt c1]; exact j2⟩
      · exact ⟨j + 1, by omega, by rw [inS_gt (by omega), Nat.add_sub_cancel]; exact j2⟩
    · exact ⟨p, by omega, by rw [inS_eq, hA]⟩
theorem fpl_sp (f : Nat → Int32) (v : Int32) : ∀ (m j : Nat), (∀ k, j ≤ k → k < fpl f v m j → ¬ v ≤ f k) ∧ (fpl f v m j < j + m → v ≤ f (fpl f v m j)) := by
  intro m
  induction m with
  | zero => intro j; simp only [fpl]; exact ⟨fun k a b => by omega, fun q => by omega⟩
  | succ m ih =>
    intro j
    simp only [fpl]
    by_cases c : v ≤ f j
    · rw [if_pos c]
      exact ⟨fun k a b => by omega, fun _ => c⟩
    · rw [if_neg c]
      obtain ⟨q1, q2⟩ := ih (j + 1)
      refine ⟨fun k a b => ?_, fun q => q2 (by omega)⟩
      by_cases e : k = j
      · rw [e]; exact c
      · exact q1 k (by omega) b
theorem put_new {f : Nat → Int32} {n : Nat} {A : Nat → Prop} (h : SrT f (fun _ => 0) n A (fun _ => 0)) (hn : n < 3024) {x : Nat} (hx : x < 3024) (hA : ¬ A x) : ∃ f', fX0_put 3024 f (nI n) (nI (pl x)) = some (f', nI (n + 1)) ∧ SrT f' (fun _ => 0) (n + 1) (fun y => A y ∨ y = x) (fun _ => 0) := by
  obtain ⟨F, hF⟩ := h
  have hpx := pl_lt hx
  have hin := fpl_in f (nI (pl x)) n 0
  obtain ⟨s1, s2⟩ := fpl_sp f (nI (pl x)) n 0
  have hnew : ∀ j, j < n → F j ≠ pl x := fun j hj e => by
    obtain ⟨y, y1, y2, y3, _⟩ := hF.2.2.1 j hj
    have := pl_inj y1 hx (y3.symm.trans e)
    rw [this] at y2; exact hA y2
  rcases put_0 (cap := 3024) (by decide) (by rw [fu_s]; omega) (f := f) (v := nI (pl x)) hn with ⟨c1, c2, _⟩ | ⟨c1, f', e1, e2⟩
  · exfalso
    rw [hF.1 _ c1, nI_eq (by have := hF.lt c1; omega) (by omega)] at c2
    exact hnew _ c1 c2
  · refine ⟨f', e1, SrF_ins hF hx (p := fpl f (nI (pl x)) n 0) (by omega) (fun j hj => ?_) (fun j j1 j2 => ?_) e2 (fun j _ => ?_)⟩
    · have hjn : j < n := by omega
      have := s1 j (Nat.zero_le _) hj
      rw [hF.1 j hjn, nI_leI (by omega) (by have := hF.lt hjn; omega)] at this
      omega
    · have hp : fpl f (nI (pl x)) n 0 < n := by omega
      have := s2 (by omega)
      rw [hF.1 _ hp, nI_leI (by omega) (by have := hF.lt hp; omega)] at this
      have hne := hnew _ hp
      by_cases e : j = fpl f (nI (pl x)) n 0
      · rw [e]; omega
      · have := hF.2.1 (fpl f (nI (pl x)) n 0) j (by omega) j2
        omega
    · unfold inS
      split
      · rfl
      · split <;> rfl
theorem adds_L {v : Int32} {tv : Int64} {n : Nat} (hn : n < 3024) : ∀ (a fl : Nat) (f : Nat → Int32) (t : Nat → Int64), a ≤ n → a < fl → ∃ p f' t', p ≤ a ∧ fX6_adds_L6 v tv fl (nI n) f t (nI a) = some (nI (n + 1), f', t') ∧ (p = 0 ∨ f (p - 1) ≤ v) ∧ (∀ j, p ≤ j → j < a → ¬ f j ≤ v) ∧ (∀ j, f' j = if j < p then f j else if j = p then v else if j ≤ a then f (j - 1) else f j) ∧ ∀ j, t' j = if j < p then t j else if j = p then tv else if j ≤ a then t (j - 1) else t j := by
  have stop : ∀ (a : Nat) (f : Nat → Int32) (t : Nat → Int64), a ≤ n → fX6_adds_b62 v tv (nI n) f t (nI a) = some (nI (n + 1), upd f a v, vp_updL t a tv) ∧ (∀ j, upd f a v j = if j < a then f j else if j = a then v else if j ≤ a then f (j - 1) else f j) ∧ ∀ j, vp_updL t a tv j = if j < a then t j else if j = a then tv else if j ≤ a then t (j - 1) else t j := by
    intro a f t ha
    refine ⟨?_, fun j => ?_, fun j => ?_⟩
    · simp only [fX6_adds_b62, i_lit, nI_add]
      rw [pI_at (by omega) (by decide), pJ_at (by omega) (by decide)]
    · by_cases c : j = a
      · rw [c, upd_s, if_neg (by omega), if_pos rfl]
      · rw [upd_n c]
        by_cases c2 : j < a
        · rw [if_pos c2]
        · rw [if_neg c2, if_neg c, if_neg (by omega)]
    · rw [updL_at]
      by_cases c : j = a
      · rw [if_pos c, if_neg (by omega), if_pos c]
      · rw [if_neg c]
        by_cases c2 : j < a
        · rw [if_pos c2]
        · rw [if_neg c2, if_neg c, if_neg (by omega)]
  intro a
  induction a with
  | zero =>
    intro fl f t ha hf
    obtain ⟨fl, rfl⟩ : ∃ q, fl = q + 1 := ⟨fl - 1, by omega⟩
    obtain ⟨s1, s2, s3⟩ := stop 0 f t (Nat.zero_le _)
    refine ⟨0, _, _, Nat.le_refl _, ?_, Or.inl rfl, fun j j1 j2 => by omega, s2, s3⟩
    simp only [fX6_adds_L6, i_lit]
    rw [if_pos (by decide : nI 0 ≤ nI 0)]
    exact s1
  | succ a ih =>
    intro fl f t ha hf
    obtain ⟨fl, rfl⟩ : ∃ q, fl = q + 1 := ⟨fl - 1, by omega⟩
    have e0 : nI (a + 1) - nI 1 = nI a := by rw [i_dif (by omega)]; rfl
    by_cases c : f a ≤ v
    · obtain ⟨s1, s2, s3⟩ := stop (a + 1) f t ha
      refine ⟨a + 1, _, _, Nat.le_refl _, ?_, Or.inr c, fun j j1 j2 => by omega, s2, s3⟩
      simp only [fX6_adds_L6, i_lit]
      rw [if_neg (fun q => by rw [nI_leI (by omega) (by omega)] at q; omega), e0, gI_at (by omega) (by decide), if_pos c]
      exact s1
    · obtain ⟨p, f', t', q1, q2, q3, q4, q5, q6⟩ := ih fl (upd f (a + 1) (f a)) (vp_updL t (a + 1) (t a)) (by omega) (by omega)
      refine ⟨p, f', t', by omega, ?_, ?_, fun j j1 j2 => ?_, fun j => ?_, fun j => ?_⟩
      · simp only [fX6_adds_L6, i_lit, nmE]
        rw [if_neg (fun q => by rw [nI_leI (by omega) (by omega)] at q; omega), e0, gI_at (by omega) (by decide), if_neg c, gI_at (by omega) (by decide), pI_at (by omega) (by decide), gJ_at (by omega) (by decide), pJ_at (by omega) (by decide), nI_dec (by omega), show a + 1 - 1 = a by omega]
        exact q2
      · rcases q3 with q3 | q3
        · exact Or.inl q3
        · rw [upd_n (by omega)] at q3
          exact Or.inr q3
      · by_cases e : j = a
        · rw [e]; exact c
        · have := q4 j j1 (by omega)
          rw [upd_n (by omega)] at this
          exact this
      · rw [q5 j]
        by_cases c1 : j < p
        · rw [if_pos c1, if_pos c1, upd_n (by omega)]
        · rw [if_neg c1, if_neg c1]
          by_cases c2 : j = p
          · rw [if_pos c2, if_pos c2]
          · rw [if_neg c2, if_neg c2]
            by_cases c3 : j ≤ a
            · rw [if_pos c3, if_pos (by omega), upd_n (by omega)]
            · rw [if_neg c3]
              by_cases c4 : j = a + 1
              · rw [c4, upd_s, if_pos (Nat.le_refl _), Nat.add_sub_cancel]
              · rw [upd_n c4, if_neg (by omega)]
      · rw [q6 j]
        by_cases c1 : j < p
        · rw [if_pos c1, if_pos c1, updL_at, if_neg (by omega)]
        · rw [if_neg c1, if_neg c1]
          by_cases c2 : j = p
          · rw [if_pos c2, if_pos c2]
          · rw [if_neg c2, if_neg c2]
            by_cases c3 : j ≤ a
            · rw [if_pos c3, if_pos (by omega), updL_at, if_neg (by omega)]
            · rw [if_neg c3]
              by_cases c4 : j = a + 1
              · rw [c4, updL_at, if_pos rfl, if_pos (Nat.le_refl _), Nat.add_sub_cancel]
              · rw [updL_at, if_neg c4, if_neg (by omega)]
theorem adds_new {f : Nat → Int32} {t : Nat → Int64} {n : Nat} {A : Nat → Prop} {E : Nat → Int64} (h : SrT f t n A E) (hn : n < 3024) {x : Nat} (hx : x < 3024) (hA : ¬ A x) : ∃ f' t', fX6_adds (nI n) f t (nI (pl x)) (E x) = some (nI (n + 1), f', t') ∧ SrT f' t' (n + 1) (fun y => A y ∨ y = x) E := by
  obtain ⟨F, hF⟩ := h
  have hpx := pl_lt hx
  have hnew : ∀ j, j < n → F j ≠ pl x := fun j hj e => by
    obtain ⟨y, y1, y2, y3, _⟩ := hF.2.2.1 j hj
    have := pl_inj y1 hx (y3.symm.trans e)
    rw [this] at y2; exact hA y2
  obtain ⟨p, f', t', q1, q2, q3, q4, q5, q6⟩ := adds_L (v := nI (pl x)) (tv := E x) hn n fu f t (Nat.le_refl _) (by rw [fu_s]; omega)
  refine ⟨f', t', ?_, SrF_ins hF hx q1 (fun j hj => ?_) (fun j j1 j2 => ?_) (fun j hj => ?_) (fun j hj => ?_)⟩
  · simp only [fX6_adds]
    exact q2
  · rcases q3 with q3 | q3
    · omega
    · have hp : p - 1 < n := by omega
      rw [hF.1 _ hp, nI_leI (by have := hF.lt hp; omega) (by omega)] at q3
      have hne := hnew _ hp
      by_cases e : j = p - 1
      · rw [e]; omega
      · have := hF.2.1 j (p - 1) (by omega) hp
        omega
  · have := q4 j j1 j2
    rw [hF.1 j j2, nI_leI (by have := hF.lt j2; omega) (by omega)] at this
    omega
  · rw [q5 j]
    unfold inS
    by_cases c1 : j < p
    · rw [if_pos c1, if_pos c1]
    · rw [if_neg c1, if_neg c1]
      by_cases c2 : j = p
      · rw [if_pos c2, if_pos c2]
      · rw [if_neg c2, if_neg c2, if_pos hj]
  · rw [q6 j]
    unfold inS
    by_cases c1 : j < p
    · rw [if_pos c1, if_pos c1]
    · rw [if_neg c1, if_neg c1]
      by_cases c2 : j = p
      · rw [if_pos c2, if_pos c2]
      · rw [if_neg c2, if_neg c2, if_pos hj]
theorem srt_le {F G : Nat → Nat} {n m : Nat} (hF : ∀ i j, i < j → j < n → F i < F j) (hG : ∀ i j, i < j → j < m → G i < G j) (h1 : ∀ j, j < n → ∃ k, k < m ∧ G k = F j) (h2 : ∀ j, j < m → ∃ k, k < n ∧ F k = G j) : ∀ j, j ≤ n → j ≤ m ∧ ∀ i, i < j → F i = G i := by
  intro j
  induction j with
  | zero => intro _; exact ⟨Nat.zero_le _, fun i hi => by omega⟩
  | succ j ih =>
    intro hj
    obtain ⟨a, b⟩ := ih (by omega)
    obtain ⟨k, k1, k2⟩ := h1 j (by omega)
    have hk : j ≤ k := by
      apply Classical.byContradiction
      intro q
      have := b k (by omega)
      have := hF k j (by omega) (by omega)
      omega
    obtain ⟨l, l1, l2⟩ := h2 j (by omega)
    have hl : j ≤ l := by
      apply Classical.byContradiction
      intro q
      have := b l (by omega)
      have := hG l j (by omega) (by omega)
      omega
    refine ⟨by omega, fun i hi => ?_⟩
    by_cases e : i = j
    · rw [e]
      have x1 : F j ≤ F l := by
        by_cases c : j = l
        · rw [c]; exact Nat.le_refl _
        · have := hF j l (by omega) l1; omega
      have x2 : G j ≤ G k := by
        by_cases c : j = k
        · rw [c]; exact Nat.le_refl _
        · have := hG j k (by omega) k1; omega
      omega
    · exact b i (by omega)
theorem SrT_uniq {f g : Nat → Int32} {t u : Nat → Int64} {n m : Nat} {A B : Nat → Prop} {E G : Nat → Int64} (h1 : SrT f t n A E) (h2 : SrT g u m B G) (hAB : ∀ x, x < 3024 → (A x ↔ B x)) : n = m ∧ ∀ j, j < n → f j = g j := by
  obtain ⟨F, a, b, c, d⟩ := h1
  obtain ⟨H, a', b', c', d'⟩ := h2
  have m1 : ∀ j, j < n → ∃ k, k < m ∧ H k = F j := fun j hj => by
    obtain ⟨x, x1, x2, x3, _⟩ := c j hj
    obtain ⟨k, k1, k2⟩ := d' x x1 ((hAB x x1).mp x2)
    exact ⟨k, k1, k2.trans x3.symm⟩
  have m2 : ∀ j, j < m → ∃ k, k < n ∧ F k = H j := fun j hj => by
    obtain ⟨x, x1, x2, x3, _⟩ := c' j hj
    obtain ⟨k, k1, k2⟩ := d x x1 ((hAB x x1).mpr x2)
    exact ⟨k, k1, k2.trans x3.symm⟩
  have p1 := srt_le b b' m1 m2 n (Nat.le_refl _)
  have p2 := srt_le b' b m2 m1 m (Nat.le_refl _)
  exact ⟨by omega, fun j hj => by rw [a j hj, a' j (by omega), p1.2 j hj]⟩
/-! the one expansion -/
def Exp (page E : Nat → Int64) : Prop := ∀ z, z < 3024 → page z = sJ (fun x => E x * SS (xc x) z) 0 3024
theorem exp_top {E : Nat → Int64} {z : Nat} (hz : z < 3024) : sJ (fun x => E x * SS (xc x) z) 0 3024 = E z + sJ (fun x => E x * SS (xc x) z) (z + 1) (3023 - z) := by
  rw [show (3024 : Nat) = z + ((3023 - z) + 1) by omega, sJ_split, sJ_zero z 0 (fun x _ hx => by
    refine mul_z2 ?_
    apply Classical.byContradiction
    intro q
    have := S_up (by omega : x < 3024) hz q
    omega), Nat.zero_add]
  simp only [sJ]
  rw [S_one hz]
  grind
theorem exp_uniq {page E F : Nat → Int64} (hE : Exp page E) (hF : Exp page F) : ∀ x, x < 3024 → E x = F x := by
  have : ∀ n z, z < 3024 → 3024 ≤ z + n → E z = F z := by
    intro n
    induction n with
    | zero => intro z hz hn; omega
    | succ n ih =>
      intro z hz hn
      have a := hE z hz
      have b := hF z hz
      rw [exp_top hz] at a b
      rw [sJ_congr (g := fun x => F x * SS (xc x) z) (3023 - z) (z + 1) (fun x x1 x2 => by
        show E x * SS (xc x) z = F x * SS (xc x) z
        rw [ih x (by omega) (by omega)])] at a
      grind
  intro x hx
  exact this 3024 x hx (by omega)
def gs (y : Nat) : Nat := ic (xr y 1) (xr y 2) (xr y 3) (xr y 4)
theorem gs_lt {y : Nat} (hy : y < 3024) : gs y < 3024 := by
  obtain ⟨a, b, c, d⟩ := xr_le hy
  exact ic_lt a b c d
theorem xc_gs {y : Nat} (hy : y < 3024) : xc (gs y) 1 = xr y 1 ∧ xc (gs y) 2 = xr y 2 ∧ xc (gs y) 3 = xr y 3 ∧ xc (gs y) 4 = xr y 4 := by
  obtain ⟨a, b, c, d⟩ := xr_le hy
  exact xc_ic a b c d
theorem sg_gs {y : Nat} (hy : y < 3024) : sg (gs y) = y := by
  obtain ⟨a, b, c, d⟩ := xc_gs hy
  unfold sg
  rw [a, b, c, d, ir_xr]
theorem gs_sg {x : Nat} (hx : x < 3024) : gs (sg x) = x := sg_inj (gs_lt (sg_lt hx)) hx (sg_gs (sg_lt hx))
/-- the reference's recursion gives the expansion, too -/
theorem exp_ref {page sheet E : Nat → Int64} (hP : PR page sheet) (h : ∀ z, z < 3024 → sheet z = E z + sJ (fun y => E y * SS (xc (gs y)) (gs z)) 0 z) : Exp page (fun c => E (sg c)) := by
  intro x hx
  have hs := sg_lt hx
  rw [pr_sg hP hx, h _ hs, gs_sg hx]
  have e1 : sJ (fun c => E (sg c) * SS (xc c) x) 0 3024 = sJ (fun y => E y * SS (xc (gs y)) x) 0 3024 := by
    rw [sJ_re (fun y => E y * SS (xc (gs y)) x)]
    refine sJ_congr _ _ (fun c _ hc => ?_)
    show E (sg c) * SS (xc c) x = E (sg c) * SS (xc (gs (sg c))) x
    rw [gs_sg (by omega)]
  have e2 : sJ (fun y => E y * SS (xc (gs y)) x) 0 3024 = sJ (fun y => E y * SS (xc (gs y)) x) 0 (sg x) + (E (sg x) * SS (xc (gs (sg x))) x + sJ (fun y => E y * SS (xc (gs y)) x) (sg x + 1) (3023 - sg x)) := by
    rw [show (3024 : Nat) = sg x + ((3023 - sg x) + 1) by omega, sJ_split, Nat.zero_add]
    rfl
  rw [e1, e2, sJ_zero (3023 - sg x) (sg x + 1) (fun y y1 y2 => by
    refine mul_z2 ?_
    apply Classical.byContradiction
    intro q
    have := S_lo (gs_lt (by omega : y < 3024)) hx q
    rw [sg_gs (by omega)] at this
    omega), gs_sg hx, S_one hx]
  grind
