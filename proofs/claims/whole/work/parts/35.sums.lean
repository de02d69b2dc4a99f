/-! ===== sums of long numbers; cells by two exponents beside two others ===== -/
def sJ (f : Nat → Int64) : Nat → Nat → Int64
  | _, 0 => 0
  | a, n + 1 => f a + sJ f (a + 1) n
theorem sJ_congr {f g : Nat → Int64} : ∀ (n a : Nat), (∀ k, a ≤ k → k < a + n → f k = g k) → sJ f a n = sJ g a n := by
  intro n
  induction n with
  | zero => intro a _; rfl
  | succ n ih => intro a h; simp only [sJ]; rw [h a (Nat.le_refl _) (by omega), ih (a + 1) (fun k h1 h2 => h k (by omega) (by omega))]
theorem sJ_zero {f : Nat → Int64} : ∀ (n a : Nat), (∀ k, a ≤ k → k < a + n → f k = 0) → sJ f a n = 0 := by
  intro n
  induction n with
  | zero => intro a _; rfl
  | succ n ih => intro a h; simp only [sJ]; rw [h a (Nat.le_refl _) (by omega), ih (a + 1) (fun k h1 h2 => h k (by omega) (by omega))]; grind
theorem sJ_last (f : Nat → Int64) : ∀ (n a : Nat), sJ f a (n + 1) = sJ f a n + f (a + n) := by
  intro n
  induction n with
  | zero => intro a; simp only [sJ, Nat.add_zero]; grind
  | succ n ih =>
    intro a
    have e := ih (a + 1)
    rw [show a + 1 + n = a + (n + 1) by omega] at e
    rw [show sJ f a (n + 1 + 1) = f a + sJ f (a + 1) (n + 1) from rfl, e, show sJ f a (n + 1) = f a + sJ f (a + 1) n from rfl]
    grind
theorem sJ_split (f : Nat → Int64) : ∀ (n m a : Nat), sJ f a (n + m) = sJ f a n + sJ f (a + n) m := by
  intro n
  induction n with
  | zero => intro m a; rw [Nat.zero_add, Nat.add_zero]; simp only [sJ]; grind
  | succ n ih =>
    intro m a
    rw [show n + 1 + m = (n + m) + 1 by omega]
    simp only [sJ]
    rw [ih, show a + 1 + n = a + (n + 1) by omega]
    grind
theorem sJ_add (f g : Nat → Int64) : ∀ (n a : Nat), sJ (fun x => f x + g x) a n = sJ f a n + sJ g a n := by
  intro n
  induction n with
  | zero => intro a; simp only [sJ]; grind
  | succ n ih => intro a; simp only [sJ]; rw [ih]; grind
theorem sJ_sub (f g : Nat → Int64) : ∀ (n a : Nat), sJ (fun x => f x - g x) a n = sJ f a n - sJ g a n := by
  intro n
  induction n with
  | zero => intro a; simp only [sJ]; grind
  | succ n ih => intro a; simp only [sJ]; rw [ih]; grind
theorem sJ_mul (c : Int64) (f : Nat → Int64) : ∀ (n a : Nat), sJ (fun x => c * f x) a n = c * sJ f a n := by
  intro n
  induction n with
  | zero => intro a; simp only [sJ]; grind
  | succ n ih => intro a; simp only [sJ]; rw [ih]; grind
theorem sJ_rev (f : Nat → Int64) {s : Nat} : ∀ (n a : Nat), a + n ≤ s + 1 → sJ (fun t => f (s - t)) a n = sJ f (s + 1 - a - n) n := by
  intro n
  induction n with
  | zero => intro a _; rfl
  | succ n ih =>
    intro a h
    rw [sJ_last f n]
    simp only [sJ]
    rw [ih (a + 1) (by omega), show s + 1 - (a + 1) - n = s + 1 - a - (n + 1) by omega, show s + 1 - a - (n + 1) + n = s - a by omega]
    grind
theorem sJ_pick {h : Nat → Int64} {x0 : Nat} : ∀ (n a : Nat), a ≤ x0 → x0 < a + n → sJ h a n = h x0 + sJ (fun x => if x = x0 then 0 else h x) a n := by
  intro n
  induction n with
  | zero => intro a h1 h2; omega
  | succ n ih =>
    intro a h1 h2
    simp only [sJ]
    by_cases e : a = x0
    · subst e
      rw [if_pos rfl, sJ_congr (f := fun x => if x = a then 0 else h x) (g := h) n (a + 1) (fun k x y => if_neg (by omega))]
      grind
    · rw [if_neg e, ih (a + 1) (by omega) (by omega)]
      grind
theorem sJ_enum {N : Nat} (e : Nat → Nat) (ok : Nat → Bool) : ∀ (n : Nat) (h : Nat → Int64), (∀ j, j < n → ok j = true → e j < N) → (∀ j k, j < n → k < n → ok j = true → ok k = true → e j = e k → j = k) → (∀ x, x < N → (∀ j, j < n → ok j = true → x ≠ e j) → h x = 0) → sJ h 0 N = sJ (fun j => if ok j then h (e j) else 0) 0 n := by
  intro n
  induction n with
  | zero => intro h h1 h2 h3; exact sJ_zero _ _ (fun k _ b => h3 k (by omega) (fun j hj => by omega))
  | succ n ih =>
    intro h h1 h2 h3
    rw [sJ_last]
    cases hok : ok n with
    | false =>
      rw [Nat.zero_add, hok, if_neg (by decide : ¬ false = true), ih h (fun j hj => h1 j (by omega)) (fun j k hj hk => h2 j k (by omega) (by omega)) (fun x hx hne => h3 x hx (fun j hj oj => by
        by_cases q : j = n
        · rw [q, hok] at oj; cases oj
        · exact hne j (by omega) oj))]
      grind
    | true =>
      have hn := h1 n (by omega) hok
      rw [sJ_pick (x0 := e n) N 0 (Nat.zero_le _) (by omega), ih (fun x => if x = e n then 0 else h x) (fun j hj => h1 j (by omega)) (fun j k hj hk => h2 j k (by omega) (by omega)) (fun x hx hne => by
        show (if x = e n then 0 else h x) = 0
        by_cases q : x = e n
        · rw [if_pos q]
        · rw [if_neg q]
          exact h3 x hx (fun j hj oj => by
            by_cases q2 : j = n
            · rw [q2]; exact q
            · exact hne j (by omega) oj))]
      rw [Nat.zero_add, hok, if_pos rfl, sJ_congr (f := fun j => if ok j = true then (fun x => if x = e n then 0 else h x) (e j) else 0) (g := fun j => if ok j = true then h (e j) else 0) n 0 (fun k a b => by
        show (if ok k = true then (if e k = e n then 0 else h (e k)) else 0) = _
        cases ho : ok k with
        | false => rfl
        | true =>
          rw [if_pos rfl, if_neg (fun q => by have := h2 k n (by omega) (by omega) ho hok q; omega), if_pos rfl])]
      grind
def Sc (i : Nat) : Nat := if i = 1 then 1 else if i = 2 then 9 else if i = 3 then 72 else 504
def Sr (i : Nat) : Nat := if i = 1 then 336 else if i = 2 then 42 else if i = 3 then 6 else 1
def pp_ (i : Nat) : Nat := if i = 1 then 3 else 1
def qq_ (i : Nat) : Nat := if i = 3 then 2 else 4
def Ci (i u v k l : Nat) : Nat := u * Sc (pp_ i) + v * Sc (qq_ i) + k * Sc i + l * Sc (i + 1)
def Cr (i u v k l : Nat) : Nat := u * Sr (pp_ i) + v * Sr (qq_ i) + k * Sr i + l * Sr (i + 1)
def I3 (i : Nat) : Prop := i = 1 ∨ i = 2 ∨ i = 3
def Bx (i u v k l : Nat) : Prop := u ≤ 9 - pp_ i ∧ v ≤ 9 - qq_ i ∧ k ≤ 9 - i ∧ l ≤ 8 - i
theorem Ci_1 (u v k l : Nat) : Ci 1 u v k l = u * 72 + v * 504 + k * 1 + l * 9 := rfl
theorem Ci_2 (u v k l : Nat) : Ci 2 u v k l = u * 1 + v * 504 + k * 9 + l * 72 := rfl
theorem Ci_3 (u v k l : Nat) : Ci 3 u v k l = u * 1 + v * 9 + k * 72 + l * 504 := rfl
theorem Cr_1 (u v k l : Nat) : Cr 1 u v k l = u * 6 + v * 1 + k * 336 + l * 42 := rfl
theorem Cr_2 (u v k l : Nat) : Cr 2 u v k l = u * 336 + v * 1 + k * 42 + l * 6 := rfl
theorem Cr_3 (u v k l : Nat) : Cr 3 u v k l = u * 336 + v * 42 + k * 6 + l * 1 := rfl
theorem Bx_1 (u v k l : Nat) : Bx 1 u v k l ↔ u ≤ 6 ∧ v ≤ 5 ∧ k ≤ 8 ∧ l ≤ 7 := Iff.rfl
theorem Bx_2 (u v k l : Nat) : Bx 2 u v k l ↔ u ≤ 8 ∧ v ≤ 5 ∧ k ≤ 7 ∧ l ≤ 6 := Iff.rfl
theorem Bx_3 (u v k l : Nat) : Bx 3 u v k l ↔ u ≤ 8 ∧ v ≤ 7 ∧ k ≤ 6 ∧ l ≤ 5 := Iff.rfl
theorem Ci_lt {i u v k l : Nat} (hi : I3 i) (h : Bx i u v k l) : Ci i u v k l < 3024 := by
  rcases hi with rfl | rfl | rfl
  · rw [Bx_1] at h; rw [Ci_1]; omega
  · rw [Bx_2] at h; rw [Ci_2]; omega
  · rw [Bx_3] at h; rw [Ci_3]; omega
theorem Cr_lt {i u v k l : Nat} (hi : I3 i) (h : Bx i u v k l) : Cr i u v k l < 3024 := by
  rcases hi with rfl | rfl | rfl
  · rw [Bx_1] at h; rw [Cr_1]; omega
  · rw [Bx_2] at h; rw [Cr_2]; omega
  · rw [Bx_3] at h; rw [Cr_3]; omega
theorem Ci_inj {i u v k l u' v' k' l' : Nat} (hi : I3 i) (h : Bx i u v k l) (h' : Bx i u' v' k' l') : Ci i u v k l = Ci i u' v' k' l' ↔ (u = u' ∧ v = v' ∧ k = k' ∧ l = l') := by
  constructor
  · intro e
    rcases hi with rfl | rfl | rfl
    · rw [Bx_1] at h h'; rw [Ci_1, Ci_1] at e; omega
    · rw [Bx_2] at h h'; rw [Ci_2, Ci_2] at e; omega
    · rw [Bx_3] at h h'; rw [Ci_3, Ci_3] at e; omega
  · rintro ⟨rfl, rfl, rfl, rfl⟩; rfl
theorem Cr_inj {i u v k l u' v' k' l' : Nat} (hi : I3 i) (h : Bx i u v k l) (h' : Bx i u' v' k' l') : Cr i u v k l = Cr i u' v' k' l' ↔ (u = u' ∧ v = v' ∧ k = k' ∧ l = l') := by
  constructor
  · intro e
    rcases hi with rfl | rfl | rfl
    · rw [Bx_1] at h h'; rw [Cr_1, Cr_1] at e; omega
    · rw [Bx_2] at h h'; rw [Cr_2, Cr_2] at e; omega
    · rw [Bx_3] at h h'; rw [Cr_3, Cr_3] at e; omega
  · rintro ⟨rfl, rfl, rfl, rfl⟩; rfl
theorem I3.ge {i : Nat} (h : I3 i) : 1 ≤ i := by rcases h with rfl | rfl | rfl <;> decide
theorem I3.le {i : Nat} (h : I3 i) : i ≤ 3 := by rcases h with rfl | rfl | rfl <;> decide
theorem pq_in {i : Nat} (h : I3 i) : 1 ≤ pp_ i ∧ pp_ i ≤ 4 ∧ 1 ≤ qq_ i ∧ qq_ i ≤ 4 ∧ pp_ i ≠ i ∧ pp_ i ≠ i + 1 ∧ qq_ i ≠ i ∧ qq_ i ≠ i + 1 ∧ pp_ i ≠ qq_ i := by rcases h with rfl | rfl | rfl <;> decide
theorem Cr_xr {i x : Nat} (hi : I3 i) (hx : x < 3024) : Cr i (xr x (pp_ i)) (xr x (qq_ i)) (xr x i) (xr x (i + 1)) = x ∧ Bx i (xr x (pp_ i)) (xr x (qq_ i)) (xr x i) (xr x (i + 1)) := by
  rcases hi with rfl | rfl | rfl
  · show Cr 1 (xr x 3) (xr x 4) (xr x 1) (xr x 2) = x ∧ Bx 1 (xr x 3) (xr x 4) (xr x 1) (xr x 2)
    rw [Cr_1, Bx_1, xr1, xr2, xr3, xr4]; omega
  · show Cr 2 (xr x 1) (xr x 4) (xr x 2) (xr x 3) = x ∧ Bx 2 (xr x 1) (xr x 4) (xr x 2) (xr x 3)
    rw [Cr_2, Bx_2, xr1, xr2, xr3, xr4]; omega
  · show Cr 3 (xr x 1) (xr x 2) (xr x 3) (xr x 4) = x ∧ Bx 3 (xr x 1) (xr x 2) (xr x 3) (xr x 4)
    rw [Cr_3, Bx_3, xr1, xr2, xr3, xr4]; omega
theorem xr_Cr {i u v k l : Nat} (hi : I3 i) (h : Bx i u v k l) : xr (Cr i u v k l) (pp_ i) = u ∧ xr (Cr i u v k l) (qq_ i) = v ∧ xr (Cr i u v k l) i = k ∧ xr (Cr i u v k l) (i + 1) = l := by
  obtain ⟨e, b⟩ := Cr_xr hi (Cr_lt hi h)
  exact (Cr_inj hi b h).mp e
theorem Ci_xc {i x : Nat} (hi : I3 i) (hx : x < 3024) : Ci i (xc x (pp_ i)) (xc x (qq_ i)) (xc x i) (xc x (i + 1)) = x ∧ Bx i (xc x (pp_ i)) (xc x (qq_ i)) (xc x i) (xc x (i + 1)) := by
  rcases hi with rfl | rfl | rfl
  · show Ci 1 (xc x 3) (xc x 4) (xc x 1) (xc x 2) = x ∧ Bx 1 (xc x 3) (xc x 4) (xc x 1) (xc x 2)
    rw [Ci_1, Bx_1, xc1, xc2, xc3, xc4]; omega
  · show Ci 2 (xc x 1) (xc x 4) (xc x 2) (xc x 3) = x ∧ Bx 2 (xc x 1) (xc x 4) (xc x 2) (xc x 3)
    rw [Ci_2, Bx_2, xc1, xc2, xc3, xc4]; omega
  · show Ci 3 (xc x 1) (xc x 2) (xc x 3) (xc x 4) = x ∧ Bx 3 (xc x 1) (xc x 2) (xc x 3) (xc x 4)
    rw [Ci_3, Bx_3, xc1, xc2, xc3, xc4]; omega
/-- two rows that hold the same polynomial -/
def PR (p s : Nat → Int64) : Prop := ∀ a b c d, a ≤ 8 → b ≤ 7 → c ≤ 6 → d ≤ 5 → p (ic a b c d) = s (ir a b c d)
theorem PR.at {p s : Nat → Int64} (h : PR p s) {i u v k l : Nat} (hi : I3 i) (hb : Bx i u v k l) : p (Ci i u v k l) = s (Cr i u v k l) := by
  rcases hi with rfl | rfl | rfl
  · rw [Bx_1] at hb
    rw [Ci_1, Cr_1, show u * 72 + v * 504 + k * 1 + l * 9 = ic k l u v by unfold ic; omega, show u * 6 + v * 1 + k * 336 + l * 42 = ir k l u v by unfold ir; omega]
    exact h k l u v (by omega) (by omega) (by omega) (by omega)
  · rw [Bx_2] at hb
    rw [Ci_2, Cr_2, show u * 1 + v * 504 + k * 9 + l * 72 = ic u k l v by unfold ic; omega, show u * 336 + v * 1 + k * 42 + l * 6 = ir u k l v by unfold ir; omega]
    exact h u k l v (by omega) (by omega) (by omega) (by omega)
  · rw [Bx_3] at hb
    rw [Ci_3, Cr_3, show u * 1 + v * 9 + k * 72 + l * 504 = ic u v k l by unfold ic; omega, show u * 336 + v * 42 + k * 6 + l * 1 = ir u v k l by unfold ir; omega]
    exact h u v k l (by omega) (by omega) (by omega) (by omega)
theorem PR.of {p s : Nat → Int64} {i : Nat} (hi : I3 i) (h : ∀ u v k l, Bx i u v k l → p (Ci i u v k l) = s (Cr i u v k l)) : PR p s := by
  intro a b c d ha hb hc hd
  rcases hi with rfl | rfl | rfl
  · have := h c d a b ((Bx_1 _ _ _ _).mpr ⟨hc, hd, ha, hb⟩)
    rw [Ci_1, Cr_1, show c * 72 + d * 504 + a * 1 + b * 9 = ic a b c d by unfold ic; omega, show c * 6 + d * 1 + a * 336 + b * 42 = ir a b c d by unfold ir; omega] at this
    exact this
  · have := h a d b c ((Bx_2 _ _ _ _).mpr ⟨ha, hd, hb, hc⟩)
    rw [Ci_2, Cr_2, show a * 1 + d * 504 + b * 9 + c * 72 = ic a b c d by unfold ic; omega, show a * 336 + d * 1 + b * 42 + c * 6 = ir a b c d by unfold ir; omega] at this
    exact this
  · have := h a b c d ((Bx_3 _ _ _ _).mpr ⟨ha, hb, hc, hd⟩)
    rw [Ci_3, Cr_3, show a * 1 + b * 9 + c * 72 + d * 504 = ic a b c d by unfold ic; omega, show a * 336 + b * 42 + c * 6 + d * 1 = ir a b c d by unfold ir; omega] at this
    exact this
/-- the difference: of what stands at two exponents k, l -/
def bxi (i a b : Nat) : Bool := decide (a ≤ 9 - i) && decide (b ≤ 8 - i)
def bP (i : Nat) (P : Nat → Nat → Int64) (a b : Nat) : Int64 := if bxi i a b then P a b else 0
def dl (i : Nat) (P : Nat → Nat → Int64) (s t : Nat) : Int64 := bP i P t (s - t) - bP i P (s - t) t
def DD (i : Nat) (P : Nat → Nat → Int64) (k l : Nat) : Int64 := sJ (dl i P (k + l + 1)) (max k l + 1) (k + l + 1 - max k l)
theorem bxi_iff {i a b : Nat} : bxi i a b = true ↔ a ≤ 9 - i ∧ b ≤ 8 - i := by
  unfold bxi; rw [Bool.and_eq_true, decide_eq_true_iff, decide_eq_true_iff]
theorem bP_in {i a b : Nat} {P : Nat → Nat → Int64} (h : a ≤ 9 - i ∧ b ≤ 8 - i) : bP i P a b = P a b := if_pos (bxi_iff.mpr h)
theorem bP_out {i a b : Nat} {P : Nat → Nat → Int64} (h : ¬ (a ≤ 9 - i ∧ b ≤ 8 - i)) : bP i P a b = 0 := if_neg (fun q => h (bxi_iff.mp q))
theorem bP_congr {i a b : Nat} {P Q : Nat → Nat → Int64} (h : a ≤ 9 - i → b ≤ 8 - i → P a b = Q a b) : bP i P a b = bP i Q a b := by
  by_cases c : a ≤ 9 - i ∧ b ≤ 8 - i
  · rw [bP_in c, bP_in c, h c.1 c.2]
  · rw [bP_out c, bP_out c]
theorem DD_congr {i : Nat} {P Q : Nat → Nat → Int64} {k l : Nat} (h : ∀ a b, a ≤ 9 - i → b ≤ 8 - i → a + b = k + l + 1 → P a b = Q a b) : DD i P k l = DD i Q k l := by
  unfold DD
  refine sJ_congr _ _ (fun t a b => ?_)
  unfold dl
  rw [bP_congr (fun x y => h _ _ x y (by omega)), bP_congr (P := P) (Q := Q) (a := k + l + 1 - t) (fun x y => h _ _ x y (by omega))]
theorem DD_zero {i : Nat} {P : Nat → Nat → Int64} {k l : Nat} (h : ∀ a b, a ≤ 9 - i → b ≤ 8 - i → a + b = k + l + 1 → max k l < max a b → P a b = 0) : DD i P k l = 0 := by
  unfold DD
  refine sJ_zero _ _ (fun t a b => ?_)
  unfold dl
  have z : ∀ x y, x + y = k + l + 1 → max k l < max x y → bP i P x y = 0 := by
    intro x y e m
    by_cases c : x ≤ 9 - i ∧ y ≤ 8 - i
    · rw [bP_in c]; exact h x y c.1 c.2 e m
    · exact bP_out c
  rw [z _ _ (by omega) (by omega), z _ _ (by omega) (by omega)]
  grind
