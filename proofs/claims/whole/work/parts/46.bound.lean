/-! ===== numbers in S are small; products that are not 0 ===== -/
def Bd (M : Nat) (x : Int64) : Prop := -(M : Int) ≤ x.toInt ∧ x.toInt ≤ (M : Int)
theorem bm {n : Int} (h1 : -(2 ^ 62 : Int) ≤ n) (h2 : n ≤ 2 ^ 62) : n.bmod (2 ^ 64) = n := by
  apply Int.bmod_eq_of_le_mul_two
  · have : ((2 ^ 64 : Nat) : Int) = 2 ^ 64 := by decide
    rw [this]
    omega
  · have : ((2 ^ 64 : Nat) : Int) = 2 ^ 64 := by decide
    rw [this]
    omega
theorem Bd_0 (M : Nat) : Bd M 0 := by
  have : (0 : Int64).toInt = 0 := by decide
  constructor <;> omega
theorem Bd_1 {M : Nat} (h : 1 ≤ M) : Bd M 1 := by
  have : (1 : Int64).toInt = 1 := by decide
  constructor <;> omega
theorem Bd_mono {M N : Nat} {x : Int64} (h : Bd M x) (hMN : M ≤ N) : Bd N x := by
  obtain ⟨a, b⟩ := h
  constructor <;> omega
theorem Bd_add {M N : Nat} {x y : Int64} (hx : Bd M x) (hy : Bd N y) (h : M + N ≤ 2 ^ 62) : Bd (M + N) (x + y) := by
  obtain ⟨a, b⟩ := hx
  obtain ⟨c, d⟩ := hy
  have hh : ((M + N : Nat) : Int) ≤ 2 ^ 62 := by
    have : ((2 ^ 62 : Nat) : Int) = 2 ^ 62 := by decide
    rw [← this]
    omega
  unfold Bd
  rw [Int64.toInt_add, bm (by omega) (by omega)]
  omega
theorem Bd_sub {M N : Nat} {x y : Int64} (hx : Bd M x) (hy : Bd N y) (h : M + N ≤ 2 ^ 62) : Bd (M + N) (x - y) := by
  obtain ⟨a, b⟩ := hx
  obtain ⟨c, d⟩ := hy
  have hh : ((M + N : Nat) : Int) ≤ 2 ^ 62 := by
    have : ((2 ^ 62 : Nat) : Int) = 2 ^ 62 := by decide
    rw [← this]
    omega
  unfold Bd
  rw [Int64.toInt_sub, bm (by omega) (by omega)]
  omega
theorem Bd_sJ {M : Nat} {f : Nat → Int64} : ∀ (n a : Nat), n * M ≤ 2 ^ 62 → (∀ t, a ≤ t → t < a + n → Bd M (f t)) → Bd (n * M) (sJ f a n) := by
  intro n
  induction n with
  | zero => intro a _ _; exact Bd_0 _
  | succ n ih =>
    intro a h hf
    rw [Nat.succ_mul] at h ⊢
    simp only [sJ]
    have := Bd_add (hf a (Nat.le_refl _) (by omega)) (ih (a + 1) (by omega) (fun t t1 t2 => hf t (by omega) (by omega))) (by omega)
    rw [Nat.add_comm]
    exact this
theorem Bd_bP {i M : Nat} {P : Nat → Nat → Int64} {a b : Nat} (h : a ≤ 9 - i → b ≤ 8 - i → Bd M (P a b)) : Bd M (bP i P a b) := by
  by_cases c : a ≤ 9 - i ∧ b ≤ 8 - i
  · rw [bP_in c]; exact h c.1 c.2
  · rw [bP_out c]; exact Bd_0 M
theorem Bd_Dc {i : Nat} (hi : I3 i) {M : Nat} (hM : M ≤ 2 ^ 40) {P : Nat → Int64} (h : ∀ x, x < 3024 → Bd M (P x)) {x : Nat} (hx : x < 3024) : Bd (16 * M) (Dc i P x) := by
  have i1 := hi.ge
  have i3 := hi.le
  obtain ⟨_, hB⟩ := Ci_xc hi hx
  have hB3 := hB.2.2
  unfold Dc DD
  obtain ⟨k, hk⟩ : ∃ k, k = xc x i := ⟨_, rfl⟩
  obtain ⟨l, hl⟩ : ∃ l, l = xc x (i + 1) := ⟨_, rfl⟩
  rw [← hk, ← hl] at hB3 ⊢
  have hn : k + l + 1 - max k l ≤ 8 := by omega
  have hle : (k + l + 1 - max k l) * (M + M) ≤ 8 * (M + M) := Nat.mul_le_mul_right _ hn
  refine Bd_mono (Bd_sJ _ _ (by omega) (fun t _ _ => ?_)) (show (k + l + 1 - max k l) * (M + M) ≤ 16 * M by omega)
  unfold dl
  refine Bd_sub (Bd_bP (fun ha hb => ?_)) (Bd_bP (fun ha hb => ?_)) (by omega)
  · exact h _ (Ci_lt hi ⟨hB.1, hB.2.1, ha, hb⟩)
  · exact h _ (Ci_lt hi ⟨hB.1, hB.2.1, ha, hb⟩)
theorem Bd_mo (c : Nat → Nat) (x : Nat) {M : Nat} (h : 1 ≤ M) : Bd M (mono c x) := by
  unfold mono
  by_cases e : x = cellc c
  · rw [if_pos e]; exact Bd_1 h
  · rw [if_neg e]; exact Bd_0 M
theorem Bd_Sx : ∀ (m : Nat) (c : Nat → Nat), m ≤ 7 → ∀ x, x < 3024 → Bd (16 ^ m) (Sx m c x) := by
  intro m
  induction m with
  | zero => intro c _ x _; exact Bd_mo c x (by decide)
  | succ m ih =>
    intro c hm x hx
    have hp : 16 ^ m ≤ 2 ^ 40 := Nat.le_trans (Nat.pow_le_pow_right (by decide) (by omega : m ≤ 6)) (by decide)
    have hp1 : 1 ≤ 16 ^ (m + 1) := Nat.le_trans Nat.one_le_two_pow (Nat.pow_le_pow_left (by decide : 2 ≤ 16) _)
    simp only [Sx]
    by_cases h0 : fr c = 0
    · rw [if_pos h0]; exact Bd_mo c x hp1
    · rw [if_neg h0]
      have := Bd_Dc (fr_in c h0).1 hp (fun y hy => ih (exc c (fr c)) (by omega) y hy) hx
      rw [Nat.pow_succ, Nat.mul_comm]
      exact this
theorem Bd_S {x y : Nat} (hy : y < 3024) : Bd 16777216 (SS (xc x) y) := Bd_Sx 6 (xc x) (by decide) y hy
theorem Bd_lim {v : Int64} (h : ¬ lim v) : Bd 1000000000 v := by
  have h1 : ¬ 1000000000 < v := fun q => h (Or.inl q)
  have h2 : ¬ v < -1000000000 := fun q => h (Or.inr q)
  rw [Int64.lt_iff_toInt_lt] at h1 h2
  have e1 : (1000000000 : Int64).toInt = 1000000000 := by decide
  have e2 : (-1000000000 : Int64).toInt = -1000000000 := by decide
  rw [e1] at h1
  rw [e2] at h2
  constructor <;> omega
theorem l_ne {x : Int64} (h : x ≠ 0) : x.toInt ≠ 0 := fun q => h (Int64.toInt_inj.mp (by rw [q]; decide))
theorem mul_ne {x y : Int64} (hx : Bd 1000000000 x) (hy : Bd 16777216 y) (h1 : x ≠ 0) (h2 : y ≠ 0) : x * y ≠ 0 := by
  intro q
  have q1 : (x * y).toInt = 0 := by rw [q]; decide
  rw [Int64.toInt_mul] at q1
  have a1 := l_ne h1
  have a2 := l_ne h2
  obtain ⟨b1, b2⟩ := hx
  obtain ⟨b3, b4⟩ := hy
  have n1 : x.toInt.natAbs ≤ 1000000000 := by omega
  have n2 : y.toInt.natAbs ≤ 16777216 := by omega
  have n3 : (x.toInt * y.toInt).natAbs ≤ 1000000000 * 16777216 := by rw [Int.natAbs_mul]; exact Nat.mul_le_mul n1 n2
  rw [bm (by omega) (by omega)] at q1
  rcases Int.mul_eq_zero.mp q1 with e | e
  · exact a1 e
  · exact a2 e
