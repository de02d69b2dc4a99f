/-! ===== S of one permutation ===== -/
def CdB (c : Nat → Nat) : Prop := ∀ j, 1 ≤ j → j ≤ 4 → c j ≤ 9 - j
def fr (c : Nat → Nat) : Nat := if c 1 < c 2 then 1 else if c 2 < c 3 then 2 else if c 3 < c 4 then 3 else 0
def exc (c : Nat → Nat) (i : Nat) : Nat → Nat := fun j => if j = i then c (i + 1) + 1 else if j = i + 1 then c i else c j
def cq (c : Nat → Nat) : Nat → Nat → Nat
  | 0 => c
  | k + 1 => if fr (cq c k) = 0 then cq c k else exc (cq c k) (fr (cq c k))
def deg (c : Nat → Nat) : Nat := c 1 + c 2 + c 3 + c 4
theorem fr_in (c : Nat → Nat) (h : fr c ≠ 0) : I3 (fr c) ∧ c (fr c) < c (fr c + 1) := by
  unfold fr at h ⊢
  by_cases h1 : c 1 < c 2
  · rw [if_pos h1]; exact ⟨Or.inl rfl, h1⟩
  · rw [if_neg h1] at h ⊢
    by_cases h2 : c 2 < c 3
    · rw [if_pos h2]; exact ⟨Or.inr (Or.inl rfl), h2⟩
    · rw [if_neg h2] at h ⊢
      by_cases h3 : c 3 < c 4
      · rw [if_pos h3]; exact ⟨Or.inr (Or.inr rfl), h3⟩
      · rw [if_neg h3] at h; exact absurd rfl h
theorem exc_B {c : Nat → Nat} (hc : CdB c) {i : Nat} (hi : I3 i) (hl : c i < c (i + 1)) : CdB (exc c i) := by
  have i1 := hi.ge
  have i3 := hi.le
  intro j j1 j4
  unfold exc
  have a := hc (i + 1) (by omega) (by omega)
  by_cases e1 : j = i
  · rw [if_pos e1]; omega
  · rw [if_neg e1]
    by_cases e2 : j = i + 1
    · rw [if_pos e2]; omega
    · rw [if_neg e2]; exact hc j j1 j4
theorem exc_deg (c : Nat → Nat) {i : Nat} (hi : I3 i) : deg (exc c i) = deg c + 1 := by
  rcases hi with rfl | rfl | rfl
  · show (c 2 + 1) + c 1 + c 3 + c 4 = c 1 + c 2 + c 3 + c 4 + 1; omega
  · show c 1 + (c 3 + 1) + c 2 + c 4 = c 1 + c 2 + c 3 + c 4 + 1; omega
  · show c 1 + c 2 + (c 4 + 1) + c 3 = c 1 + c 2 + c 3 + c 4 + 1; omega
theorem cq_B {c : Nat → Nat} (hc : CdB c) : ∀ k, CdB (cq c k) := by
  intro k
  induction k with
  | zero => exact hc
  | succ k ih =>
    simp only [cq]
    by_cases h : fr (cq c k) = 0
    · rw [if_pos h]; exact ih
    · rw [if_neg h]; exact exc_B ih (fr_in _ h).1 (fr_in _ h).2
theorem cq_s {c : Nat → Nat} {k : Nat} (h : fr (cq c k) ≠ 0) : cq c (k + 1) = exc (cq c k) (fr (cq c k)) := by
  simp only [cq]; rw [if_neg h]
theorem cq_front {c : Nat → Nat} (h : fr c ≠ 0) : ∀ k, cq c (k + 1) = cq (exc c (fr c)) k := by
  intro k
  induction k with
  | zero => exact if_neg h
  | succ k ih =>
    rw [show cq c (k + 1 + 1) = if fr (cq c (k + 1)) = 0 then cq c (k + 1) else exc (cq c (k + 1)) (fr (cq c (k + 1))) from rfl, ih]
    rfl
theorem cq_stay {c : Nat → Nat} (h : fr c = 0) : ∀ k, cq c k = c := by
  intro k
  induction k with
  | zero => rfl
  | succ k ih => simp only [cq]; rw [ih, if_pos h]
def endsIn : Nat → Nat → Nat → Nat → Nat → Bool
  | 0, a, b, c, d => !decide (a < b) && (!decide (b < c) && !decide (c < d))
  | m + 1, a, b, c, d => if a < b then endsIn m (b + 1) a c d else if b < c then endsIn m a (c + 1) b d else if c < d then endsIn m a b (d + 1) c else true
theorem ends_6 : ∀ a, a < 9 → ∀ b, b < 8 → ∀ c, c < 7 → ∀ d, d < 6 → endsIn 6 a b c d = true := by decide +kernel
theorem ends_cq : ∀ (m : Nat) (c : Nat → Nat), endsIn m (c 1) (c 2) (c 3) (c 4) = true → fr (cq c m) = 0 := by
  intro m
  induction m with
  | zero =>
    intro c h
    simp only [endsIn, Bool.and_eq_true, Bool.not_eq_true', decide_eq_false_iff_not] at h
    show fr c = 0
    unfold fr
    rw [if_neg h.1, if_neg h.2.1, if_neg h.2.2]
  | succ m ih =>
    intro c h
    by_cases h0 : fr c = 0
    · rw [cq_stay h0]; exact h0
    · rw [cq_front h0]
      apply ih
      simp only [endsIn] at h
      unfold fr at h0 ⊢
      by_cases h1 : c 1 < c 2
      · rw [if_pos h1] at h ⊢; exact h
      · rw [if_neg h1] at h h0 ⊢
        by_cases h2 : c 2 < c 3
        · rw [if_pos h2] at h ⊢; exact h
        · rw [if_neg h2] at h h0 ⊢
          by_cases h3 : c 3 < c 4
          · rw [if_pos h3] at h ⊢; exact h
          · rw [if_neg h3] at h0; exact absurd rfl h0
theorem cq_six {c : Nat → Nat} (hc : CdB c) : fr (cq c 6) = 0 := by
  have a := hc 1 (by decide) (by decide)
  have b := hc 2 (by decide) (by decide)
  have c' := hc 3 (by decide) (by decide)
  have d := hc 4 (by decide) (by decide)
  exact ends_cq 6 c (ends_6 _ (by omega) _ (by omega) _ (by omega) _ (by omega))
theorem cq_n {c : Nat → Nat} (hc : CdB c) : ∃ n, n ≤ 6 ∧ fr (cq c n) = 0 ∧ ∀ k, k < n → fr (cq c k) ≠ 0 := by
  have h := cq_six hc
  have : ∀ m, fr (cq c m) = 0 → ∃ n, n ≤ m ∧ fr (cq c n) = 0 ∧ ∀ k, k < n → fr (cq c k) ≠ 0 := by
    intro m
    induction m with
    | zero => intro h; exact ⟨0, Nat.le_refl _, h, fun k hk => by omega⟩
    | succ m ih =>
      intro h
      by_cases h0 : fr (cq c m) = 0
      · obtain ⟨n, a, b, d⟩ := ih h0; exact ⟨n, by omega, b, d⟩
      · refine ⟨m + 1, Nat.le_refl _, h, fun k hk e => ?_⟩
        have st : ∀ j, fr (cq c (k + j)) = 0 := by
          intro j
          induction j with
          | zero => exact e
          | succ j ih2 =>
            show fr (cq c (k + j + 1)) = 0
            simp only [cq]
            rw [if_pos ih2]; exact ih2
        have := st (m - k)
        rw [show k + (m - k) = m by omega] at this
        exact h0 this
  exact this 6 h
theorem cq_deg {c : Nat → Nat} : ∀ n, (∀ k, k < n → fr (cq c k) ≠ 0) → ∀ k, k ≤ n → deg (cq c k) = deg c + k := by
  intro n h k
  induction k with
  | zero => intro _; rfl
  | succ k ih =>
    intro hk
    rw [cq_s (h k (by omega)), exc_deg _ (fr_in _ (h k (by omega))).1, ih (by omega)]
    omega
def Dc (i : Nat) (P : Nat → Int64) (x : Nat) : Int64 := DD i (fun a b => P (Ci i (xc x (pp_ i)) (xc x (qq_ i)) a b)) (xc x i) (xc x (i + 1))
def cellc (c : Nat → Nat) : Nat := ic (c 1) (c 2) (c 3) (c 4)
def mono (c : Nat → Nat) (x : Nat) : Int64 := if x = cellc c then 1 else 0
def Sx : Nat → (Nat → Nat) → Nat → Int64
  | 0, c => mono c
  | m + 1, c => if fr c = 0 then mono c else Dc (fr c) (Sx m (exc c (fr c)))
def SS (c : Nat → Nat) : Nat → Int64 := Sx 6 c
theorem Sx_end {c : Nat → Nat} (h : fr c = 0) (m : Nat) : Sx m c = mono c := by
  cases m with
  | zero => rfl
  | succ m => simp only [Sx]; rw [if_pos h]
theorem xc_Ci {i u v k l : Nat} (hi : I3 i) (h : Bx i u v k l) : xc (Ci i u v k l) (pp_ i) = u ∧ xc (Ci i u v k l) (qq_ i) = v ∧ xc (Ci i u v k l) i = k ∧ xc (Ci i u v k l) (i + 1) = l := by
  obtain ⟨e, b⟩ := Ci_xc hi (Ci_lt hi h)
  exact (Ci_inj hi b h).mp e
def dgx (x : Nat) : Nat := xc x 1 + xc x 2 + xc x 3 + xc x 4
theorem dgx_i {i : Nat} (hi : I3 i) (x : Nat) : xc x (pp_ i) + xc x (qq_ i) + xc x i + xc x (i + 1) = dgx x := by
  unfold dgx
  rcases hi with rfl | rfl | rfl
  · show xc x 3 + xc x 4 + xc x 1 + xc x 2 = _; omega
  · show xc x 1 + xc x 4 + xc x 2 + xc x 3 = _; omega
  · rfl
theorem dgx_Ci {i u v k l : Nat} (hi : I3 i) (h : Bx i u v k l) : dgx (Ci i u v k l) = u + v + k + l := by
  obtain ⟨a, b, c, d⟩ := xc_Ci hi h
  rw [← dgx_i hi, a, b, c, d]
theorem Dc_Ci {i u v k l : Nat} (hi : I3 i) (h : Bx i u v k l) (P : Nat → Int64) : Dc i P (Ci i u v k l) = DD i (fun a b => P (Ci i u v a b)) k l := by
  obtain ⟨a, b, c, d⟩ := xc_Ci hi h
  unfold Dc
  rw [a, b, c, d]
theorem tops_4 {T : Nat → Nat} {i : Nat} (hi : I3 i) {x : Nat} : (∃ j, 1 ≤ j ∧ j ≤ 4 ∧ T j < xc x j) ↔ (T (pp_ i) < xc x (pp_ i) ∨ T (qq_ i) < xc x (qq_ i) ∨ T i < xc x i ∨ T (i + 1) < xc x (i + 1)) := by
  have i1 := hi.ge
  have i3 := hi.le
  have hpq := pq_in hi
  constructor
  · rintro ⟨j, j1, j4, h⟩
    rcases hi with rfl | rfl | rfl
    · rcases (show j = 1 ∨ j = 2 ∨ j = 3 ∨ j = 4 by omega) with rfl | rfl | rfl | rfl
      · exact Or.inr (Or.inr (Or.inl h))
      · exact Or.inr (Or.inr (Or.inr h))
      · exact Or.inl h
      · exact Or.inr (Or.inl h)
    · rcases (show j = 1 ∨ j = 2 ∨ j = 3 ∨ j = 4 by omega) with rfl | rfl | rfl | rfl
      · exact Or.inl h
      · exact Or.inr (Or.inr (Or.inl h))
      · exact Or.inr (Or.inr (Or.inr h))
      · exact Or.inr (Or.inl h)
    · rcases (show j = 1 ∨ j = 2 ∨ j = 3 ∨ j = 4 by omega) with rfl | rfl | rfl | rfl
      · exact Or.inl h
      · exact Or.inr (Or.inl h)
      · exact Or.inr (Or.inr (Or.inl h))
      · exact Or.inr (Or.inr (Or.inr h))
  · rintro (h | h | h | h)
    · exact ⟨_, hpq.1, hpq.2.1, h⟩
    · exact ⟨_, hpq.2.2.1, hpq.2.2.2.1, h⟩
    · exact ⟨_, i1, by omega, h⟩
    · exact ⟨_, by omega, by omega, h⟩
/-- a grid with its tops: nothing beyond them -/
def GTop (g : Nat → Int64) (top : Nat → Int32) : Prop := ∃ T, TopOk top T ∧ ∀ x, x < 3024 → (∃ j, 1 ≤ j ∧ j ≤ 4 ∧ T j < xc x j) → g x = 0
/-- the class's difference of a grid between two degrees -/
theorem differ_g {i : Nat} (hi : I3 i) {g : Nat → Int64} {top : Nat → Int32} (hg : GTop g top) {lo hh : Nat} (hlh : lo ≤ hh + 1) (hd : hh ≤ 26) (hdeg : ∀ x, x < 3024 → (dgx x < lo ∨ hh < dgx x) → g x = 0) : ∃ g' top', fX2_differ g top (nI i) (nI lo) (nI hh) = some (g', top') ∧ (∀ x, x < 3024 → g' x = Dc i g x) ∧ GTop g' top' := by
  have i1 := hi.ge
  have i3 := hi.le
  obtain ⟨T, hT, hz⟩ := hg
  have hF : ∀ u v k l, Bx i u v k l → (T (pp_ i) < u ∨ T (qq_ i) < v ∨ T i < k ∨ T (i + 1) < l) → g (Ci i u v k l) = 0 := by
    intro u v k l hb h
    obtain ⟨a, b, c, d⟩ := xc_Ci hi hb
    refine hz _ (Ci_lt hi hb) ((tops_4 hi).mpr ?_)
    rw [a, b, c, d]; exact h
  obtain ⟨g', top', e1, e2, e3⟩ := differ_2 hi hT hF hlh hd (fun u v k l hb h => hdeg _ (Ci_lt hi hb) (by rw [dgx_Ci hi hb]; exact h))
  have e4 : ∀ x, x < 3024 → g' x = Dc i g x := by
    intro x hx
    obtain ⟨e, b⟩ := Ci_xc hi hx
    have := e2 _ _ _ _ b
    rw [e] at this
    exact this
  refine ⟨g', top', e1, e4, Tn i T, e3, fun x hx h => ?_⟩
  rw [tops_4 hi] at h
  have hpq := pq_in hi
  obtain ⟨e, b⟩ := Ci_xc hi hx
  rw [e4 x hx]
  unfold Dc
  refine DD_top hF b ?_
  unfold Tn at h
  rw [if_neg (by omega), if_neg (by omega), if_pos (Or.inl rfl), if_pos (Or.inr rfl)] at h
  exact h
theorem Dc_congr {i : Nat} (hi : I3 i) {g P : Nat → Int64} (h : ∀ x, x < 3024 → g x = P x) {x : Nat} (hx : x < 3024) : Dc i g x = Dc i P x := by
  obtain ⟨e, b⟩ := Ci_xc hi hx
  unfold Dc
  exact DD_congr (fun a b' ha hb _ => h _ (Ci_lt hi ⟨b.1, b.2.1, ha, hb⟩))
theorem Dc_deg {i : Nat} (hi : I3 i) {g : Nat → Int64} {d : Nat} (h : ∀ x, x < 3024 → dgx x ≠ d → g x = 0) {x : Nat} (hx : x < 3024) (hd : dgx x + 1 ≠ d) : Dc i g x = 0 := by
  obtain ⟨e, b⟩ := Ci_xc hi hx
  unfold Dc
  refine DD_zero (fun a b' ha hb e' _ => ?_)
  have hB : Bx i (xc x (pp_ i)) (xc x (qq_ i)) a b' := ⟨b.1, b.2.1, ha, hb⟩
  refine h _ (Ci_lt hi hB) ?_
  rw [dgx_Ci hi hB]
  have := dgx_i hi x
  omega
theorem dgx_le {x : Nat} (hx : x < 3024) : dgx x ≤ 26 := by
  have a := xc_le hx (by decide : 1 ≤ 1) (by decide)
  have b := xc_le hx (by decide : 1 ≤ 2) (by decide)
  have c := xc_le hx (by decide : 1 ≤ 3) (by decide)
  have d := xc_le hx (by decide : 1 ≤ 4) (by decide)
  unfold dgx
  omega
