/-! ===== S is of one degree, its code leads ===== -/
def sI (a b c d : Nat) (m1 m2 m3 m4 : Bool) : Nat := (if m1 then a else 0) + (if m2 then b else 0) + (if m3 then c else 0) + (if m4 then d else 0)
def thS (f : Bool → Bool → Nat) (p q : Bool) : Nat := if p then (if q then f true true - 1 else max (f true false) (f false true) - 1) else (if q then max (f true false) (f false true) - 1 else f false false)
def thR : Nat → Nat → Nat → Nat → Nat → Bool → Bool → Bool → Bool → Nat
  | 0, a, b, c, d => fun m1 m2 m3 m4 => sI a b c d m1 m2 m3 m4
  | m + 1, a, b, c, d => fun m1 m2 m3 m4 => if a < b then thS (fun p q => thR m (b + 1) a c d p q m3 m4) m1 m2 else if b < c then thS (fun p q => thR m a (c + 1) b d m1 p q m4) m2 m3 else if c < d then thS (fun p q => thR m a b (d + 1) c m1 m2 p q) m3 m4 else sI a b c d m1 m2 m3 m4
def chk : Nat → Nat → Nat → Nat → Nat → Bool
  | 0, _, _, _, _ => true
  | m + 1, a, b, c, d => if a < b then chk m (b + 1) a c d && (decide (thR m (b + 1) a c d true false true true ≤ b + 1 + c + d) && decide (thR m (b + 1) a c d false true true true ≤ a + c + d)) else if b < c then chk m a (c + 1) b d && (decide (thR m a (c + 1) b d false true false true ≤ c + 1 + d) && decide (thR m a (c + 1) b d false false true true ≤ b + d)) else if c < d then chk m a b (d + 1) c && (decide (thR m a b (d + 1) c false false true false ≤ d + 1) && decide (thR m a b (d + 1) c false false false true ≤ c)) else true
def suf (a b c d : Nat) : Bool := decide (thR 6 a b c d false true true true ≤ b + c + d) && (decide (thR 6 a b c d false false true true ≤ c + d) && decide (thR 6 a b c d false false false true ≤ d))
theorem chk_6 : ∀ a, a < 9 → ∀ b, b < 8 → ∀ c, c < 7 → ∀ d, d < 6 → (chk 6 a b c d && suf a b c d) = true := by decide +kernel
theorem thS_ok {f : Bool → Bool → Nat} {a b k l t : Nat} (hs : a + b = k + l + 1) (hm : max k l < max a b) (h : ∀ p q : Bool, (if p then a else 0) + (if q then b else 0) + t ≤ f p q) (p q : Bool) : (if p then k else 0) + (if q then l else 0) + t ≤ thS f p q := by
  have h1 : a + b + t ≤ f true true := h true true
  have h2 : a + 0 + t ≤ f true false := h true false
  have h3 : 0 + b + t ≤ f false true := h false true
  have h4 : 0 + 0 + t ≤ f false false := h false false
  cases p <;> cases q
  · show 0 + 0 + t ≤ f false false; exact h4
  · show 0 + l + t ≤ max (f true false) (f false true) - 1; omega
  · show k + 0 + t ≤ max (f true false) (f false true) - 1; omega
  · show k + l + t ≤ f true true - 1; omega
def Sb (P : Nat → Int64) (f : Bool → Bool → Bool → Bool → Nat) : Prop := ∀ x, x < 3024 → P x ≠ 0 → ∀ m1 m2 m3 m4, sI (xc x 1) (xc x 2) (xc x 3) (xc x 4) m1 m2 m3 m4 ≤ f m1 m2 m3 m4
theorem Dc_ex {i : Nat} {P : Nat → Int64} {x : Nat} (h : Dc i P x ≠ 0) : ∃ a b, a ≤ 9 - i ∧ b ≤ 8 - i ∧ a + b = xc x i + xc x (i + 1) + 1 ∧ max (xc x i) (xc x (i + 1)) < max a b ∧ P (Ci i (xc x (pp_ i)) (xc x (qq_ i)) a b) ≠ 0 := by
  apply Classical.byContradiction
  intro hn
  apply h
  unfold Dc
  refine DD_zero (fun a b ha hb e hm => ?_)
  apply Classical.byContradiction
  intro h0
  exact hn ⟨a, b, ha, hb, e, hm, h0⟩
theorem Sb_1 {P : Nat → Int64} {f : Bool → Bool → Bool → Bool → Nat} (h : Sb P f) : Sb (Dc 1 P) (fun m1 m2 m3 m4 => thS (fun p q => f p q m3 m4) m1 m2) := by
  intro x hx hne m1 m2 m3 m4
  have hi : I3 1 := Or.inl rfl
  obtain ⟨a, b, ha, hb, hs, hm, h0⟩ := Dc_ex hne
  obtain ⟨_, hB⟩ := Ci_xc hi hx
  have hB2 : Bx 1 (xc x (pp_ 1)) (xc x (qq_ 1)) a b := ⟨hB.1, hB.2.1, ha, hb⟩
  have A := h _ (Ci_lt hi hB2) h0
  obtain ⟨y3, y4, y1, y2⟩ := xc_Ci hi hB2
  have y1' : xc (Ci 1 (xc x (pp_ 1)) (xc x (qq_ 1)) a b) 1 = a := y1
  have y2' : xc (Ci 1 (xc x (pp_ 1)) (xc x (qq_ 1)) a b) 2 = b := y2
  have y3' : xc (Ci 1 (xc x (pp_ 1)) (xc x (qq_ 1)) a b) 3 = xc x 3 := y3
  have y4' : xc (Ci 1 (xc x (pp_ 1)) (xc x (qq_ 1)) a b) 4 = xc x 4 := y4
  rw [y1', y2', y3', y4'] at A
  have hs' : a + b = xc x 1 + xc x 2 + 1 := hs
  have hm' : max (xc x 1) (xc x 2) < max a b := hm
  have K := thS_ok (f := fun p q => f p q m3 m4) (t := (if m3 then xc x 3 else 0) + (if m4 then xc x 4 else 0)) hs' hm' (fun p q => by
    have := A p q m3 m4
    unfold sI at this
    rw [Nat.add_assoc] at this
    exact this) m1 m2
  unfold sI
  rw [Nat.add_assoc]
  exact K
theorem Sb_2 {P : Nat → Int64} {f : Bool → Bool → Bool → Bool → Nat} (h : Sb P f) : Sb (Dc 2 P) (fun m1 m2 m3 m4 => thS (fun p q => f m1 p q m4) m2 m3) := by
  intro x hx hne m1 m2 m3 m4
  have hi : I3 2 := Or.inr (Or.inl rfl)
  obtain ⟨a, b, ha, hb, hs, hm, h0⟩ := Dc_ex hne
  obtain ⟨_, hB⟩ := Ci_xc hi hx
  have hB2 : Bx 2 (xc x (pp_ 2)) (xc x (qq_ 2)) a b := ⟨hB.1, hB.2.1, ha, hb⟩
  have A := h _ (Ci_lt hi hB2) h0
  obtain ⟨y1, y4, y2, y3⟩ := xc_Ci hi hB2
  have y1' : xc (Ci 2 (xc x (pp_ 2)) (xc x (qq_ 2)) a b) 1 = xc x 1 := y1
  have y2' : xc (Ci 2 (xc x (pp_ 2)) (xc x (qq_ 2)) a b) 2 = a := y2
  have y3' : xc (Ci 2 (xc x (pp_ 2)) (xc x (qq_ 2)) a b) 3 = b := y3
  have y4' : xc (Ci 2 (xc x (pp_ 2)) (xc x (qq_ 2)) a b) 4 = xc x 4 := y4
  rw [y1', y2', y3', y4'] at A
  have hs' : a + b = xc x 2 + xc x 3 + 1 := hs
  have hm' : max (xc x 2) (xc x 3) < max a b := hm
  have K := thS_ok (f := fun p q => f m1 p q m4) (t := (if m1 then xc x 1 else 0) + (if m4 then xc x 4 else 0)) hs' hm' (fun p q => by
    have := A m1 p q m4
    unfold sI at this
    refine Nat.le_trans (Nat.le_of_eq ?_) this
    ac_rfl) m2 m3
  unfold sI
  refine Nat.le_trans (Nat.le_of_eq ?_) K
  ac_rfl
theorem Sb_3 {P : Nat → Int64} {f : Bool → Bool → Bool → Bool → Nat} (h : Sb P f) : Sb (Dc 3 P) (fun m1 m2 m3 m4 => thS (fun p q => f m1 m2 p q) m3 m4) := by
  intro x hx hne m1 m2 m3 m4
  have hi : I3 3 := Or.inr (Or.inr rfl)
  obtain ⟨a, b, ha, hb, hs, hm, h0⟩ := Dc_ex hne
  obtain ⟨_, hB⟩ := Ci_xc hi hx
  have hB2 : Bx 3 (xc x (pp_ 3)) (xc x (qq_ 3)) a b := ⟨hB.1, hB.2.1, ha, hb⟩
  have A := h _ (Ci_lt hi hB2) h0
  obtain ⟨y1, y2, y3, y4⟩ := xc_Ci hi hB2
  have y1' : xc (Ci 3 (xc x (pp_ 3)) (xc x (qq_ 3)) a b) 1 = xc x 1 := y1
  have y2' : xc (Ci 3 (xc x (pp_ 3)) (xc x (qq_ 3)) a b) 2 = xc x 2 := y2
  have y3' : xc (Ci 3 (xc x (pp_ 3)) (xc x (qq_ 3)) a b) 3 = a := y3
  have y4' : xc (Ci 3 (xc x (pp_ 3)) (xc x (qq_ 3)) a b) 4 = b := y4
  rw [y1', y2', y3', y4'] at A
  have hs' : a + b = xc x 3 + xc x 4 + 1 := hs
  have hm' : max (xc x 3) (xc x 4) < max a b := hm
  have K := thS_ok (f := fun p q => f m1 m2 p q) (t := (if m1 then xc x 1 else 0) + (if m2 then xc x 2 else 0)) hs' hm' (fun p q => by
    have := A m1 m2 p q
    unfold sI at this
    refine Nat.le_trans (Nat.le_of_eq ?_) this
    ac_rfl) m3 m4
  unfold sI
  refine Nat.le_trans (Nat.le_of_eq ?_) K
  ac_rfl
theorem fr_1 {c : Nat → Nat} (h : c 1 < c 2) : fr c = 1 := if_pos h
theorem fr_2 {c : Nat → Nat} (h1 : ¬ c 1 < c 2) (h : c 2 < c 3) : fr c = 2 := by unfold fr; rw [if_neg h1, if_pos h]
theorem fr_3 {c : Nat → Nat} (h1 : ¬ c 1 < c 2) (h2 : ¬ c 2 < c 3) (h : c 3 < c 4) : fr c = 3 := by unfold fr; rw [if_neg h1, if_neg h2, if_pos h]
theorem fr_0 {c : Nat → Nat} (h1 : ¬ c 1 < c 2) (h2 : ¬ c 2 < c 3) (h : ¬ c 3 < c 4) : fr c = 0 := by unfold fr; rw [if_neg h1, if_neg h2, if_neg h]
theorem Sx_s {c : Nat → Nat} {i m : Nat} (h : fr c = i) (h0 : i ≠ 0) : Sx (m + 1) c = Dc i (Sx m (exc c i)) := by
  simp only [Sx]
  rw [if_neg (by rw [h]; exact h0), h]
theorem mono_Sb {c : Nat → Nat} (hc : CdB c) : Sb (mono c) (sI (c 1) (c 2) (c 3) (c 4)) := by
  intro x hx hne m1 m2 m3 m4
  unfold mono at hne
  by_cases e : x = cellc c
  · rw [e, xc_cellc hc (by decide) (by decide), xc_cellc hc (by decide) (by decide), xc_cellc hc (by decide) (by decide), xc_cellc hc (by decide) (by decide)]
    exact Nat.le_refl _
  · rw [if_neg e] at hne; exact absurd rfl hne
theorem Sx_Sb : ∀ (m : Nat) (c : Nat → Nat), CdB c → Sb (Sx m c) (thR m (c 1) (c 2) (c 3) (c 4)) := by
  intro m
  induction m with
  | zero => intro c hc; exact mono_Sb hc
  | succ m ih =>
    intro c hc
    by_cases h1 : c 1 < c 2
    · have hi : I3 1 := Or.inl rfl
      rw [Sx_s (fr_1 h1) (by decide)]
      have := Sb_1 (ih (exc c 1) (exc_B hc hi h1))
      intro x hx hne m1 m2 m3 m4
      have K := this x hx hne m1 m2 m3 m4
      simp only [thR]
      rw [if_pos h1]
      exact K
    · by_cases h2 : c 2 < c 3
      · have hi : I3 2 := Or.inr (Or.inl rfl)
        rw [Sx_s (fr_2 h1 h2) (by decide)]
        have := Sb_2 (ih (exc c 2) (exc_B hc hi h2))
        intro x hx hne m1 m2 m3 m4
        have K := this x hx hne m1 m2 m3 m4
        simp only [thR]
        rw [if_neg h1, if_pos h2]
        exact K
      · by_cases h3 : c 3 < c 4
        · have hi : I3 3 := Or.inr (Or.inr rfl)
          rw [Sx_s (fr_3 h1 h2 h3) (by decide)]
          have := Sb_3 (ih (exc c 3) (exc_B hc hi h3))
          intro x hx hne m1 m2 m3 m4
          have K := this x hx hne m1 m2 m3 m4
          simp only [thR]
          rw [if_neg h1, if_neg h2, if_pos h3]
          exact K
        · rw [Sx_end (fr_0 h1 h2 h3)]
          have := mono_Sb hc
          intro x hx hne m1 m2 m3 m4
          simp only [thR]
          rw [if_neg h1, if_neg h2, if_neg h3]
          exact this x hx hne m1 m2 m3 m4
theorem DD_lead {i : Nat} {P : Nat → Nat → Int64} {k l : Nat} (hkl : k < l) (hl : l + 1 ≤ 9 - i) (hk : k ≤ 8 - i) (h1 : ∀ a b, a ≤ 9 - i → b ≤ 8 - i → a + b = k + l + 1 → l + 1 < a → P a b = 0) (h2 : ∀ a b, a ≤ 9 - i → b ≤ 8 - i → a + b = k + l + 1 → k < b → P a b = 0) : DD i P k l = P (l + 1) k := by
  unfold DD
  rw [show max k l = l by omega, show k + l + 1 - l = k + 1 by omega]
  simp only [sJ]
  rw [sJ_zero k (l + 1 + 1) (fun t t1 t2 => by
    unfold dl
    have e1 : bP i P t (k + l + 1 - t) = 0 := by
      by_cases c : t ≤ 9 - i ∧ k + l + 1 - t ≤ 8 - i
      · rw [bP_in c]; exact h1 _ _ c.1 c.2 (by omega) (by omega)
      · exact bP_out c
    have e2 : bP i P (k + l + 1 - t) t = 0 := by
      by_cases c : k + l + 1 - t ≤ 9 - i ∧ t ≤ 8 - i
      · rw [bP_in c]; exact h2 _ _ c.1 c.2 (by omega) (by omega)
      · exact bP_out c
    rw [e1, e2]
    grind)]
  unfold dl
  rw [show k + l + 1 - (l + 1) = k by omega, bP_in ⟨hl, hk⟩]
  have e2 : bP i P k (l + 1) = 0 := by
    by_cases c : k ≤ 9 - i ∧ l + 1 ≤ 8 - i
    · rw [bP_in c]; exact h2 _ _ c.1 c.2 (by omega) (by omega)
    · exact bP_out c
  rw [e2]
  grind
theorem mono_one (c : Nat → Nat) : mono c (cellc c) = 1 := if_pos rfl
/-- one step of S at its own code -/
theorem Dc_lead {i : Nat} (hi : I3 i) {c : Nat → Nat} (hc : CdB c) (hl : c i < c (i + 1)) {P : Nat → Int64} (hP : P (cellc (exc c i)) = 1) (h1 : ∀ a b, Bx i (c (pp_ i)) (c (qq_ i)) a b → c (i + 1) + 1 < a → P (Ci i (c (pp_ i)) (c (qq_ i)) a b) = 0) (h2 : ∀ a b, Bx i (c (pp_ i)) (c (qq_ i)) a b → c i < b → P (Ci i (c (pp_ i)) (c (qq_ i)) a b) = 0) : Dc i P (cellc c) = 1 := by
  have i1 := hi.ge
  have i3 := hi.le
  have hpq := pq_in hi
  have b1 := hc i i1 (by omega)
  have b2 := hc (i + 1) (by omega) (by omega)
  have b3 := hc _ hpq.1 hpq.2.1
  have b4 := hc _ hpq.2.2.1 hpq.2.2.2.1
  unfold Dc
  rw [xc_cellc hc hpq.1 hpq.2.1, xc_cellc hc hpq.2.2.1 hpq.2.2.2.1, xc_cellc hc i1 (by omega), xc_cellc hc (by omega) (by omega)]
  rw [DD_lead hl (by omega) (by omega) (fun a b ha hb _ q => h1 a b ⟨b3, b4, ha, hb⟩ q) (fun a b ha hb _ q => h2 a b ⟨b3, b4, ha, hb⟩ q)]
  rw [← hP]
  congr 1
  rcases hi with rfl | rfl | rfl
  · show c 3 * 72 + c 4 * 504 + (c 2 + 1) * 1 + c 1 * 9 = (c 2 + 1) + 9 * c 1 + 72 * c 3 + 504 * c 4; omega
  · show c 1 * 1 + c 4 * 504 + (c 3 + 1) * 9 + c 2 * 72 = c 1 + 9 * (c 3 + 1) + 72 * c 2 + 504 * c 4; omega
  · show c 1 * 1 + c 2 * 9 + (c 4 + 1) * 72 + c 3 * 504 = c 1 + 9 * c 2 + 72 * (c 4 + 1) + 504 * c 3; omega
theorem Sx_one : ∀ (m : Nat) (c : Nat → Nat), CdB c → chk m (c 1) (c 2) (c 3) (c 4) = true → Sx m c (cellc c) = 1 := by
  intro m
  induction m with
  | zero => intro c hc _; exact mono_one c
  | succ m ih =>
    intro c hc hk
    simp only [chk] at hk
    by_cases h1 : c 1 < c 2
    · have hi : I3 1 := Or.inl rfl
      rw [if_pos h1] at hk
      simp only [Bool.and_eq_true, decide_eq_true_eq] at hk
      obtain ⟨k1, k2, k3⟩ := hk
      have hv := exc_B hc hi h1
      have S := Sx_Sb m (exc c 1) hv
      rw [Sx_s (fr_1 h1) (by decide)]
      have key : ∀ a b, Bx 1 (c (pp_ 1)) (c (qq_ 1)) a b → Sx m (exc c 1) (Ci 1 (c (pp_ 1)) (c (qq_ 1)) a b) ≠ 0 → a ≤ c 2 + 1 ∧ b ≤ c 1 := by
        intro a b hB h0
        have A := S _ (Ci_lt hi hB) h0
        obtain ⟨y3, y4, y1, y2⟩ := xc_Ci hi hB
        have y1' : xc (Ci 1 (c (pp_ 1)) (c (qq_ 1)) a b) 1 = a := y1
        have y2' : xc (Ci 1 (c (pp_ 1)) (c (qq_ 1)) a b) 2 = b := y2
        have y3' : xc (Ci 1 (c (pp_ 1)) (c (qq_ 1)) a b) 3 = c 3 := y3
        have y4' : xc (Ci 1 (c (pp_ 1)) (c (qq_ 1)) a b) 4 = c 4 := y4
        rw [y1', y2', y3', y4'] at A
        have A1 : a + 0 + c 3 + c 4 ≤ c 2 + 1 + c 3 + c 4 := Nat.le_trans (A true false true true) k2
        have A2 : 0 + b + c 3 + c 4 ≤ c 1 + c 3 + c 4 := Nat.le_trans (A false true true true) k3
        omega
      refine Dc_lead hi hc h1 (ih _ hv k1) (fun a b hB q => ?_) (fun a b hB q => ?_)
      · apply Classical.byContradiction
        intro h0
        have := key a b hB h0
        have q' : c 2 + 1 < a := q
        omega
      · apply Classical.byContradiction
        intro h0
        have := key a b hB h0
        omega
    · rw [if_neg h1] at hk
      by_cases h2 : c 2 < c 3
      · have hi : I3 2 := Or.inr (Or.inl rfl)
        rw [if_pos h2] at hk
        simp only [Bool.and_eq_true, decide_eq_true_eq] at hk
        obtain ⟨k1, k2, k3⟩ := hk
        have hv := exc_B hc hi h2
        have S := Sx_Sb m (exc c 2) hv
        rw [Sx_s (fr_2 h1 h2) (by decide)]
        have key : ∀ a b, Bx 2 (c (pp_ 2)) (c (qq_ 2)) a b → Sx m (exc c 2) (Ci 2 (c (pp_ 2)) (c (qq_ 2)) a b) ≠ 0 → a ≤ c 3 + 1 ∧ b ≤ c 2 := by
          intro a b hB h0
          have A := S _ (Ci_lt hi hB) h0
          obtain ⟨y1, y4, y2, y3⟩ := xc_Ci hi hB
          have y1' : xc (Ci 2 (c (pp_ 2)) (c (qq_ 2)) a b) 1 = c 1 := y1
          have y2' : xc (Ci 2 (c (pp_ 2)) (c (qq_ 2)) a b) 2 = a := y2
          have y3' : xc (Ci 2 (c (pp_ 2)) (c (qq_ 2)) a b) 3 = b := y3
          have y4' : xc (Ci 2 (c (pp_ 2)) (c (qq_ 2)) a b) 4 = c 4 := y4
          rw [y1', y2', y3', y4'] at A
          have A1 : 0 + a + 0 + c 4 ≤ c 3 + 1 + c 4 := Nat.le_trans (A false true false true) k2
          have A2 : 0 + 0 + b + c 4 ≤ c 2 + c 4 := Nat.le_trans (A false false true true) k3
          omega
        refine Dc_lead hi hc h2 (ih _ hv k1) (fun a b hB q => ?_) (fun a b hB q => ?_)
        · apply Classical.byContradiction
          intro h0
          have := key a b hB h0
          have q' : c 3 + 1 < a := q
          omega
        · apply Classical.byContradiction
          intro h0
          have := key a b hB h0
          omega
      · rw [if_neg h2] at hk
        by_cases h3 : c 3 < c 4
        · have hi : I3 3 := Or.inr (Or.inr rfl)
          rw [if_pos h3] at hk
          simp only [Bool.and_eq_true, decide_eq_true_eq] at hk
          obtain ⟨k1, k2, k3⟩ := hk
          have hv := exc_B hc hi h3
          have S := Sx_Sb m (exc c 3) hv
          rw [Sx_s (fr_3 h1 h2 h3) (by decide)]
          have key : ∀ a b, Bx 3 (c (pp_ 3)) (c (qq_ 3)) a b → Sx m (exc c 3) (Ci 3 (c (pp_ 3)) (c (qq_ 3)) a b) ≠ 0 → a ≤ c 4 + 1 ∧ b ≤ c 3 := by
            intro a b hB h0
            have A := S _ (Ci_lt hi hB) h0
            obtain ⟨y1, y2, y3, y4⟩ := xc_Ci hi hB
            have y1' : xc (Ci 3 (c (pp_ 3)) (c (qq_ 3)) a b) 1 = c 1 := y1
            have y2' : xc (Ci 3 (c (pp_ 3)) (c (qq_ 3)) a b) 2 = c 2 := y2
            have y3' : xc (Ci 3 (c (pp_ 3)) (c (qq_ 3)) a b) 3 = a := y3
            have y4' : xc (Ci 3 (c (pp_ 3)) (c (qq_ 3)) a b) 4 = b := y4
            rw [y1', y2', y3', y4'] at A
            have A1 : 0 + 0 + a + 0 ≤ c 4 + 1 := Nat.le_trans (A false false true false) k2
            have A2 : 0 + 0 + 0 + b ≤ c 3 := Nat.le_trans (A false false false true) k3
            omega
          refine Dc_lead hi hc h3 (ih _ hv k1) (fun a b hB q => ?_) (fun a b hB q => ?_)
          · apply Classical.byContradiction
            intro h0
            have := key a b hB h0
            have q' : c 4 + 1 < a := q
            omega
          · apply Classical.byContradiction
            intro h0
            have := key a b hB h0
            omega
        · rw [Sx_end (fr_0 h1 h2 h3)]; exact mono_one c
theorem xc_B {x : Nat} (hx : x < 3024) : CdB (xc x) := fun j j1 j4 => xc_le hx j1 (by omega)
theorem chk_x {x : Nat} (hx : x < 3024) : chk 6 (xc x 1) (xc x 2) (xc x 3) (xc x 4) = true ∧ suf (xc x 1) (xc x 2) (xc x 3) (xc x 4) = true := by
  obtain ⟨a, b, c, d⟩ := xc4_le hx
  have := chk_6 _ (by omega : xc x 1 < 9) _ (by omega : xc x 2 < 8) _ (by omega : xc x 3 < 7) _ (by omega : xc x 4 < 6)
  exact Bool.and_eq_true_iff.mp this
theorem S_one {x : Nat} (hx : x < 3024) : SS (xc x) x = 1 := by
  have := Sx_one 6 (xc x) (xc_B hx) (chk_x hx).1
  rw [show cellc (xc x) = x from ic_xc x] at this
  exact this
theorem S_dom {x y : Nat} (hx : x < 3024) (hy : y < 3024) (h : SS (xc x) y ≠ 0) : dgx y = dgx x ∧ xc y 2 + xc y 3 + xc y 4 ≤ xc x 2 + xc x 3 + xc x 4 ∧ xc y 3 + xc y 4 ≤ xc x 3 + xc x 4 ∧ xc y 4 ≤ xc x 4 := by
  have hd : dgx y = deg (xc x) := by
    apply Classical.byContradiction
    intro q
    exact h (Sx_deg 6 (xc_B hx) y hy q)
  have S := Sx_Sb 6 (xc x) (xc_B hx) y hy h
  have s := (chk_x hx).2
  simp only [suf, Bool.and_eq_true, decide_eq_true_eq] at s
  have A1 : 0 + xc y 2 + xc y 3 + xc y 4 ≤ xc x 2 + xc x 3 + xc x 4 := Nat.le_trans (S false true true true) s.1
  have A2 : 0 + 0 + xc y 3 + xc y 4 ≤ xc x 3 + xc x 4 := Nat.le_trans (S false false true true) s.2.1
  have A3 : 0 + 0 + 0 + xc y 4 ≤ xc x 4 := Nat.le_trans (S false false false true) s.2.2
  exact ⟨hd, by omega, by omega, by omega⟩
theorem S_up {x y : Nat} (hx : x < 3024) (hy : y < 3024) (h : SS (xc x) y ≠ 0) : y ≤ x := by
  obtain ⟨a, b, c, d⟩ := S_dom hx hy h
  have e1 : xc x 1 + 9 * xc x 2 + 72 * xc x 3 + 504 * xc x 4 = x := ic_xc x
  have e2 : xc y 1 + 9 * xc y 2 + 72 * xc y 3 + 504 * xc y 4 = y := ic_xc y
  unfold dgx at a
  omega
theorem S_lo {x y : Nat} (hx : x < 3024) (hy : y < 3024) (h : SS (xc x) y ≠ 0) : sg x ≤ sg y := by
  obtain ⟨a, b, c, d⟩ := S_dom hx hy h
  unfold dgx at a
  unfold sg ir
  omega
