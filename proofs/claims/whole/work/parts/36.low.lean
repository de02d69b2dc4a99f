/-! ===== the difference of a line, in its place ===== -/
def putc (q : Nat → Int64) (c : Bool) (y : Nat) (v : Int64) : Nat → Int64 := if c then vp_updL q y v else q
theorem updL_at {f : Nat → Int64} {k j : Nat} {x : Int64} : vp_updL f k x j = if j = k then x else f j := rfl
theorem putc_at (q : Nat → Int64) (c : Bool) (y : Nat) (v : Int64) (x : Nat) : putc q c y v x = if c = true ∧ x = y then v else q x := by
  unfold putc
  cases c with
  | false => rw [if_neg (by decide : ¬ false = true), if_neg (fun h => by cases h.1)]
  | true =>
    rw [if_pos rfl, updL_at]
    by_cases e : x = y
    · rw [if_pos e, if_pos ⟨rfl, e⟩]
    · rw [if_neg e, if_neg (fun h => e h.2)]
theorem most_at : ∀ i, i < 5 → 1 ≤ i → tMOST i = nI (9 - i) := by decide
theorem stride_at : ∀ i, i < 5 → 1 ≤ i → tSTRIDE i = nI (Sc i) := by decide
theorem pairCell_2 {i : Nat} (hi : I3 i) {base a b : Nat} (ha : a < 100) (hb : b < 100) : fX2_pairCell (nI i) (nI base) (nI a) (nI b) = some (if bxi i a b then nI (base + a * Sc i + b * Sc (i + 1)) else -nI 1) := by
  have h1 := hi.ge
  have h3 := hi.le
  simp only [fX2_pairCell, i_lit, nI_add]
  rw [gI_at (by omega) (by decide), most_at i (by omega) h1]
  simp (disch := omega) only [nI_ltI, nI_leI, gI_at, most_at, stride_at, nI_mul, nI_add]
  rw [if_neg (by omega), if_neg (by omega), if_neg (by omega), show 9 - (i + 1) = 8 - i by omega]
  by_cases c : a ≤ 9 - i ∧ b ≤ 8 - i
  · rw [if_neg (by omega), if_neg (by omega), if_pos (by omega), if_pos (bxi_iff.mpr c)]
  · rw [if_neg (fun q => c (bxi_iff.mp q) : ¬ bxi i a b = true)]
    by_cases d : 9 - i < a
    · rw [if_pos d]
    · rw [if_neg d, if_neg (by omega), if_neg (by omega)]
theorem at_2 {q : Nat → Int64} {c : Bool} {y : Nat} (h : c = true → y < 3024) : fX2_at q (if c then nI y else -nI 1) = some (if c then q y else 0) := by
  simp only [fX2_at, i_lit]
  cases c with
  | false => rw [if_neg (by decide : ¬ false = true), if_neg (by decide : ¬ false = true), if_pos (by decide : -nI 1 < nI 0)]
  | true =>
    have := h rfl
    rw [if_pos rfl, if_pos rfl]
    simp (disch := omega) only [nI_ltI, nI_leI, gJ_at]
    rw [if_neg (by omega), if_neg (by omega)]
theorem put_2 {q : Nat → Int64} {c : Bool} {y : Nat} (v : Int64) (h : c = true → y < 3024) : fX2_put q (if c then nI y else -nI 1) v = some (putc q c y v) := by
  simp only [fX2_put, i_lit, putc]
  cases c with
  | false => rw [if_neg (by decide : ¬ false = true), if_neg (by decide : ¬ false = true), if_pos (by decide : -nI 1 < nI 0)]
  | true =>
    have := h rfl
    rw [if_pos rfl, if_pos rfl]
    simp (disch := omega) only [nI_ltI, nI_leI, pJ_at]
    rw [if_neg (by omega), if_neg (by omega)]
theorem ll_end : ∀ s, s < 27 → 1 ≤ s → nI 2 * (nI ((s - 1) / 2) + -nI 1) < nI s - nI 2 := by decide +kernel
theorem ll_in : ∀ s, s < 27 → ∀ m, m < 11 → (1 ≤ s ∧ (s - 1) / 2 ≤ m) → ¬ (nI 2 * nI m < nI s - nI 2) := by decide +kernel
theorem ll_out : ∀ s, s < 27 → ∀ m, m < 11 → (1 ≤ s ∧ m < (s - 1) / 2) → nI 2 * nI m < nI s - nI 2 := by decide +kernel
def LQ (i u v s : Nat) (p : Nat → Int64) (r u' v' a b : Nat) : Int64 := if u' = u ∧ v' = v then (if a + b = s then (if r < max a b then 0 else p (Ci i u' v' a b)) else if a + b + 1 = s then (if r ≤ max a b then DD i (fun x y => p (Ci i u v x y)) a b else p (Ci i u' v' a b)) else p (Ci i u' v' a b)) else p (Ci i u' v' a b)
theorem hit {i u v u' v' a b x y : Nat} (hi : I3 i) (hu : u ≤ 9 - pp_ i) (hv : v ≤ 9 - qq_ i) (h : Bx i u' v' a b) : (bxi i x y = true ∧ Ci i u' v' a b = Ci i u v x y) ↔ (u' = u ∧ v' = v ∧ a = x ∧ b = y) := by
  constructor
  · rintro ⟨c, e⟩
    have c' := bxi_iff.mp c
    exact (Ci_inj hi h ⟨hu, hv, c'.1, c'.2⟩).mp e
  · rintro ⟨rfl, rfl, rfl, rfl⟩
    exact ⟨bxi_iff.mpr ⟨h.2.2.1, h.2.2.2⟩, rfl⟩
theorem low_L {i u v s : Nat} (hi : I3 i) (hu : u ≤ 9 - pp_ i) (hv : v ≤ 9 - qq_ i) (hs : 1 ≤ s) (hs26 : s ≤ 26) {top : Nat → Int32} {p : Nat → Int64} {lo : Nat} (hlo : lo = (s - 1) / 2) : ∀ (n fl : Nat) (q : Nat → Int64), n < fl → lo + n ≤ s → lo + n ≤ 11 → (∀ u' v' a b, Bx i u' v' a b → q (Ci i u' v' a b) = LQ i u v s p (lo + n) u' v' a b) → ∃ q', fX2_lowerLine_L43 top (nI i) (nI (u * Sc (pp_ i) + v * Sc (qq_ i))) (nI s) fl q (sJ (dl i (fun x y => p (Ci i u v x y)) s) (lo + n + 1) (s - lo - n)) (nI (lo + n) + -nI 1) = some q' ∧ ∀ u' v' a b, Bx i u' v' a b → q' (Ci i u' v' a b) = LQ i u v s p lo u' v' a b := by
  intro n
  induction n with
  | zero =>
    intro fl q hf h1 h2 h
    obtain ⟨fl, rfl⟩ : ∃ q, fl = q + 1 := ⟨fl - 1, by omega⟩
    refine ⟨q, ?_, h⟩
    simp only [fX2_lowerLine_L43, i_lit]
    rw [Nat.add_zero, if_pos (by rw [hlo]; exact ll_end s (by omega) hs)]
  | succ n ih =>
    intro fl q hf h1 h2 h
    obtain ⟨fl, rfl⟩ : ∃ q, fl = q + 1 := ⟨fl - 1, by omega⟩
    obtain ⟨m, hm⟩ : ∃ m, m = lo + n := ⟨_, rfl⟩
    have hk := fun a b => pairCell_2 hi (base := u * Sc (pp_ i) + v * Sc (qq_ i)) (a := a) (b := b)
    have hc : ∀ a b, bxi i a b = true → Ci i u v a b < 3024 := fun a b c => Ci_lt hi ⟨hu, hv, (bxi_iff.mp c).1, (bxi_iff.mp c).2⟩
    have hat : ∀ (q : Nat → Int64) a b, fX2_at q (if bxi i a b = true then nI (Ci i u v a b) else -nI 1) = some (if bxi i a b = true then q (Ci i u v a b) else 0) := fun q a b => at_2 (hc a b)
    have hpt : ∀ (q : Nat → Int64) a b x, fX2_put q (if bxi i a b = true then nI (Ci i u v a b) else -nI 1) x = some (putc q (bxi i a b) (Ci i u v a b) x) := fun q a b x => put_2 x (hc a b)
    have eC : ∀ a b, u * Sc (pp_ i) + v * Sc (qq_ i) + a * Sc i + b * Sc (i + 1) = Ci i u v a b := fun _ _ => rfl
    have q1 : (if bxi i (m + 1) (s - m - 1) = true then q (Ci i u v (m + 1) (s - m - 1)) else 0) = bP i (fun x y => p (Ci i u v x y)) (m + 1) (s - (m + 1)) := by
      rw [show s - (m + 1) = s - m - 1 by omega]
      by_cases c : bxi i (m + 1) (s - m - 1) = true
      · have c' := bxi_iff.mp c
        rw [if_pos c, bP_in c', h u v _ _ ⟨hu, hv, c'.1, c'.2⟩]
        unfold LQ
        rw [if_pos ⟨rfl, rfl⟩, if_pos (by omega), if_neg (by omega)]
      · rw [if_neg c, bP_out (fun c' => c (bxi_iff.mpr c'))]
    have q2 : (if bxi i (s - m - 1) (m + 1) = true then q (Ci i u v (s - m - 1) (m + 1)) else 0) = bP i (fun x y => p (Ci i u v x y)) (s - (m + 1)) (m + 1) := by
      rw [show s - (m + 1) = s - m - 1 by omega]
      by_cases c : bxi i (s - m - 1) (m + 1) = true
      · have c' := bxi_iff.mp c
        rw [if_pos c, bP_in c', h u v _ _ ⟨hu, hv, c'.1, c'.2⟩]
        unfold LQ
        rw [if_pos ⟨rfl, rfl⟩, if_pos (by omega), if_neg (by omega)]
      · rw [if_neg c, bP_out (fun c' => c (bxi_iff.mpr c'))]
    have hR : sJ (dl i (fun x y => p (Ci i u v x y)) s) (lo + (n + 1) + 1) (s - lo - (n + 1)) + (bP i (fun x y => p (Ci i u v x y)) (m + 1) (s - (m + 1)) - bP i (fun x y => p (Ci i u v x y)) (s - (m + 1)) (m + 1)) = sJ (dl i (fun x y => p (Ci i u v x y)) s) (lo + n + 1) (s - lo - n) := by
      rw [show s - lo - n = (s - lo - (n + 1)) + 1 by omega]
      simp only [sJ]
      rw [show lo + n + 1 + 1 = lo + (n + 1) + 1 by omega, ← hm]
      have : dl i (fun x y => p (Ci i u v x y)) s (m + 1) = bP i (fun x y => p (Ci i u v x y)) (m + 1) (s - (m + 1)) - bP i (fun x y => p (Ci i u v x y)) (s - (m + 1)) (m + 1) := rfl
      rw [this]
      grind
    obtain ⟨R, hRR⟩ : ∃ R, R = sJ (dl i (fun x y => p (Ci i u v x y)) s) (lo + n + 1) (s - lo - n) := ⟨_, rfl⟩
    obtain ⟨q', e1, e2⟩ := ih fl (putc (putc (putc (putc q (bxi i (m + 1) (s - m - 1)) (Ci i u v (m + 1) (s - m - 1)) 0) (bxi i (s - m - 1) (m + 1)) (Ci i u v (s - m - 1) (m + 1)) 0) (bxi i m (s - 1 - m)) (Ci i u v m (s - 1 - m)) R) (bxi i (s - 1 - m) m) (Ci i u v (s - 1 - m) m) R) (by omega) (by omega) (by omega) (by
      intro u' v' a b hb
      rw [putc_at, putc_at, putc_at, putc_at, h u' v' a b hb]
      simp only [hit hi hu hv hb]
      unfold LQ
      by_cases huv : u' = u ∧ v' = v
      · obtain ⟨rfl, rfl⟩ := huv
        simp only [true_and, if_true]
        by_cases c1 : a + b = s
        · rw [if_neg (by omega), if_neg (by omega), if_pos c1, if_pos c1]
          by_cases c2 : a = s - m - 1 ∧ b = m + 1
          · rw [if_pos c2, if_pos (by omega)]
          · rw [if_neg c2]
            by_cases c3 : a = m + 1 ∧ b = s - m - 1
            · rw [if_pos c3, if_pos (by omega)]
            · rw [if_neg c3]
              by_cases c4 : lo + (n + 1) < max a b
              · rw [if_pos c4, if_pos (by omega)]
              · rw [if_neg c4, if_neg (by omega)]
        · rw [if_neg c1, if_neg c1]
          by_cases c5 : a + b + 1 = s
          · rw [if_pos c5, if_pos c5]
            by_cases c6 : (a = s - 1 - m ∧ b = m) ∨ (a = m ∧ b = s - 1 - m)
            · have eD : DD i (fun x y => p (Ci i u' v' x y)) a b = R := by
                unfold DD
                rw [c5]
                by_cases c9 : max a b = m
                · rw [c9, hRR, hm, show s - (lo + n) = s - lo - n by omega]
                · have e3 : s = m + 1 + (m + 1) := by omega
                  rw [hRR, show max a b = lo + n + 1 by omega, show s - lo - n = (s - (lo + n + 1)) + 1 by omega]
                  simp only [sJ]
                  have : dl i (fun x y => p (Ci i u' v' x y)) s (lo + n + 1) = 0 := by
                    unfold dl
                    rw [show s - (lo + n + 1) = lo + n + 1 by omega]
                    grind
                  rw [this]
                  grind
              rw [if_pos (by omega : lo + n ≤ max a b), eD]
              by_cases c7 : a = s - 1 - m ∧ b = m
              · rw [if_pos c7]
              · rw [if_neg c7, if_pos (by omega : a = m ∧ b = s - 1 - m)]
            · rw [if_neg (by omega), if_neg (by omega), if_neg (by omega), if_neg (by omega)]
              by_cases c8 : lo + (n + 1) ≤ max a b
              · rw [if_pos c8, if_pos (by omega)]
              · rw [if_neg c8, if_neg (by omega)]
          · rw [if_neg c5, if_neg c5, if_neg (by omega), if_neg (by omega), if_neg (by omega), if_neg (by omega)]
      · rw [if_neg (fun q => huv ⟨q.1, q.2.1⟩), if_neg (fun q => huv ⟨q.1, q.2.1⟩), if_neg (fun q => huv ⟨q.1, q.2.1⟩), if_neg (fun q => huv ⟨q.1, q.2.1⟩), if_neg huv, if_neg huv])
    refine ⟨q', ?_, e2⟩
    rw [show nI (lo + (n + 1)) + -nI 1 = nI m by rw [nI_dec (by omega), hm]; rfl]
    simp only [fX2_lowerLine_L43, i_lit, nmE, nI_add]
    rw [if_neg (ll_in s (by omega) m (by omega) ⟨hs, by omega⟩), i_dif (by omega : m ≤ s), i_dif (by omega : 1 ≤ s - m), i_dif (by omega : 1 ≤ s), i_dif (by omega : m ≤ s - 1)]
    rw [hk _ _ (by omega) (by omega), hk _ _ (by omega) (by omega), hk _ _ (by omega) (by omega), hk _ _ (by omega) (by omega)]
    simp only [bd_some, hat, hpt, eC, q1, q2, hR, ← hRR]
    rw [← hRR] at e1
    rw [← hm] at e1
    exact e1
theorem i_max {a b : Nat} (ha : a < 2 ^ 31) (hb : b < 2 ^ 31) : (if nI a < nI b then nI b else nI a) = nI (max a b) := by
  by_cases c : a < b
  · rw [if_pos ((nI_ltI ha hb).mpr c), show max a b = b by omega]
  · rw [if_neg (fun q => c ((nI_ltI ha hb).mp q)), show max a b = a by omega]
theorem ll_0 : ∀ m, m < 11 → ¬ (nI m < nI 0 - nI 1) := by decide +kernel
theorem low_line {i u v s : Nat} (hi : I3 i) (hu : u ≤ 9 - pp_ i) (hv : v ≤ 9 - qq_ i) (hs26 : s ≤ 26) {top : Nat → Int32} {T1 T2 : Nat} (t1 : top i = nI T1) (t2 : top (i + 1) = nI T2) (hT1 : T1 ≤ 9) (hT2 : T2 ≤ 9) {p : Nat → Int64} (hz : ∀ a b, a ≤ 9 - i → b ≤ 8 - i → (a + b = s ∨ a + b + 1 = s) → max T1 T2 < max a b → p (Ci i u v a b) = 0) : ∃ q', fX2_lowerLine p top (nI i) (nI (u * Sc (pp_ i) + v * Sc (qq_ i))) (nI s) = some q' ∧ ∀ u' v' a b, Bx i u' v' a b → q' (Ci i u' v' a b) = if u' = u ∧ v' = v then (if a + b = s then 0 else if a + b + 1 = s then DD i (fun x y => p (Ci i u v x y)) a b else p (Ci i u' v' a b)) else p (Ci i u' v' a b) := by
  have i1 := hi.ge
  have i3 := hi.le
  obtain ⟨mx, hmx⟩ : ∃ mx, mx = max T1 T2 := ⟨_, rfl⟩
  have emx : (if nI T1 < nI T2 then nI T2 else nI T1) = nI mx := by
    rw [hmx]; exact i_max (by omega) (by omega)
  rw [← hmx] at hz
  have key : fX2_lowerLine p top (nI i) (nI (u * Sc (pp_ i) + v * Sc (qq_ i))) (nI s) = fX2_lowerLine_L43 top (nI i) (nI (u * Sc (pp_ i) + v * Sc (qq_ i))) (nI s) fu p 0 (if nI mx < nI s - nI 1 then nI mx else nI s - nI 1) := by
    simp only [fX2_lowerLine, i_lit, nmE, nI_add]
    rw [if_neg (fun q => by rw [nI_ltI (by omega) (by omega)] at q; omega : ¬ nI i < nI 1), if_pos ((nI_ltI (by omega) (by omega)).mpr (by omega) : nI i < nI 4), gI_at (by omega) (by decide), gI_at (by omega) (by decide), t1, t2, emx]
  by_cases h0 : s = 0
  · subst h0
    have hc : bxi i 0 0 = true := bxi_iff.mpr ⟨Nat.zero_le _, Nat.zero_le _⟩
    have hB : Bx i u v 0 0 := ⟨hu, hv, Nat.zero_le _, Nat.zero_le _⟩
    have hlt := Ci_lt hi hB
    have hk := pairCell_2 hi (base := u * Sc (pp_ i) + v * Sc (qq_ i)) (a := 0) (b := 0) (by decide) (by decide)
    rw [hc, if_pos rfl, show u * Sc (pp_ i) + v * Sc (qq_ i) + 0 * Sc i + 0 * Sc (i + 1) = Ci i u v 0 0 from rfl] at hk
    have hat : ∀ q : Nat → Int64, fX2_at q (nI (Ci i u v 0 0)) = some (q (Ci i u v 0 0)) := fun q => by
      have := at_2 (q := q) (c := true) (y := Ci i u v 0 0) (fun _ => hlt)
      rw [if_pos rfl, if_pos rfl] at this; exact this
    have hpt : ∀ (q : Nat → Int64) x, fX2_put q (nI (Ci i u v 0 0)) x = some (vp_updL q (Ci i u v 0 0) x) := fun q x => by
      have := put_2 (q := q) (c := true) (y := Ci i u v 0 0) x (fun _ => hlt)
      rw [if_pos rfl] at this; exact this
    have hpn : ∀ (q : Nat → Int64) x, fX2_put q (-nI 1) x = some q := fun q x => by
      have := put_2 (q := q) (c := false) (y := 0) x (fun h => by cases h)
      rw [if_neg (by decide : ¬ false = true)] at this; exact this
    have pn1 : fX2_pairCell (nI i) (nI (u * Sc (pp_ i) + v * Sc (qq_ i))) (-nI 1) (nI 0) = some (-nI 1) := by
      simp only [fX2_pairCell, i_lit]
      rw [if_neg (fun q => by rw [nI_ltI (by omega) (by omega)] at q; omega : ¬ nI i < nI 1), if_neg (fun q => by rw [nI_leI (by omega) (by omega)] at q; omega : ¬ nI 4 ≤ nI i), if_pos (by decide : -nI 1 < nI 0)]
    have pn2 : fX2_pairCell (nI i) (nI (u * Sc (pp_ i) + v * Sc (qq_ i))) (nI 0) (-nI 1) = some (-nI 1) := by
      simp only [fX2_pairCell, i_lit]
      rw [if_neg (fun q => by rw [nI_ltI (by omega) (by omega)] at q; omega : ¬ nI i < nI 1), if_neg (fun q => by rw [nI_leI (by omega) (by omega)] at q; omega : ¬ nI 4 ≤ nI i), if_neg (by decide : ¬ nI 0 < nI 0), gI_at (by omega) (by decide), most_at i (by omega) i1, if_neg (fun q => by rw [nI_ltI (by omega) (by omega)] at q; omega : ¬ nI (9 - i) < nI 0), if_pos (by decide : -nI 1 < nI 0)]
    refine ⟨vp_updL (vp_updL p (Ci i u v 0 0) 0) (Ci i u v 0 0) 0, ?_, ?_⟩
    · rw [key, if_neg (ll_0 mx (by omega))]
      have go : ∀ fl, 1 < fl → fX2_lowerLine_L43 top (nI i) (nI (u * Sc (pp_ i) + v * Sc (qq_ i))) (nI 0) fl p 0 (nI 0 - nI 1) = some (vp_updL (vp_updL p (Ci i u v 0 0) 0) (Ci i u v 0 0) 0) := by
        intro fl hf
        obtain ⟨fl, rfl⟩ : ∃ q, fl = q + 1 + 1 := ⟨fl - 2, by omega⟩
        rw [fX2_lowerLine_L43]
        simp only [i_lit, nmE]
        rw [if_neg (by decide : ¬ nI 2 * (nI 0 - nI 1) < nI 0 - nI 2), show nI 0 - nI 1 + nI 1 = nI 0 by decide, show nI 0 - (nI 0 - nI 1) - nI 1 = nI 0 by decide, hk, bd_some, bd_some, hat, bd_some, bd_some, hpt, bd_some, hpt, bd_some, show nI 0 - nI 1 - (nI 0 - nI 1) = nI 0 by decide, show nI 0 - nI 1 = -nI 1 by decide, pn1, bd_some, hpn, bd_some, pn2, bd_some, hpn, bd_some, fX2_lowerLine_L43]
        simp only [i_lit]
        rw [if_pos (by decide : nI 2 * (-nI 1 + -nI 1) < nI 0 - nI 2)]
      exact go fu (by rw [fu_s]; omega)
    · intro u' v' a b hb
      have hh := hit (x := 0) (y := 0) hi hu hv hb
      rw [updL_at, updL_at]
      by_cases c : u' = u ∧ v' = v
      · rw [if_pos c]
        by_cases c1 : a + b = 0
        · rw [if_pos (hh.mpr ⟨c.1, c.2, by omega, by omega⟩).2, if_pos c1]
        · rw [if_neg (fun q => by have := hh.mp ⟨hc, q⟩; omega), if_neg (fun q => by have := hh.mp ⟨hc, q⟩; omega), if_neg c1, if_neg (by omega)]
      · rw [if_neg (fun q => c ⟨(hh.mp ⟨hc, q⟩).1, (hh.mp ⟨hc, q⟩).2.1⟩), if_neg (fun q => c ⟨(hh.mp ⟨hc, q⟩).1, (hh.mp ⟨hc, q⟩).2.1⟩), if_neg c]
  · obtain ⟨lo, hlo⟩ : ∃ lo, lo = (s - 1) / 2 := ⟨_, rfl⟩
    obtain ⟨st, hst⟩ : ∃ st, st = if mx < s - 1 then mx else s - 1 := ⟨_, rfl⟩
    have est : (if nI mx < nI s - nI 1 then nI mx else nI s - nI 1) = nI st := by
      rw [i_dif (by omega), hst]
      simp (disch := omega) only [nI_ltI]
      by_cases c : mx < s - 1
      · rw [if_pos c, if_pos c]
      · rw [if_neg c, if_neg c]
    have hst2 : st ≤ mx ∧ st ≤ s - 1 ∧ (st = mx ∨ st = s - 1) := by
      rw [hst]
      by_cases c : mx < s - 1
      · rw [if_pos c]; omega
      · rw [if_neg c]; omega
    have hfin : ∀ u' v' a b, Bx i u' v' a b → LQ i u v s p lo u' v' a b = if u' = u ∧ v' = v then (if a + b = s then 0 else if a + b + 1 = s then DD i (fun x y => p (Ci i u v x y)) a b else p (Ci i u' v' a b)) else p (Ci i u' v' a b) := by
      intro u' v' a b hb
      unfold LQ
      by_cases c : u' = u ∧ v' = v
      · rw [if_pos c, if_pos c]
        by_cases c1 : a + b = s
        · rw [if_pos c1, if_pos c1, if_pos (by omega)]
        · rw [if_neg c1, if_neg c1]
          by_cases c2 : a + b + 1 = s
          · rw [if_pos c2, if_pos c2, if_pos (by omega)]
          · rw [if_neg c2, if_neg c2]
      · rw [if_neg c, if_neg c]
    have hini : ∀ r, st < r → ∀ u' v' a b, Bx i u' v' a b → p (Ci i u' v' a b) = LQ i u v s p r u' v' a b := by
      intro r hr u' v' a b hb
      unfold LQ
      by_cases c : u' = u ∧ v' = v
      · rw [if_pos c]
        obtain ⟨rfl, rfl⟩ := c
        by_cases c1 : a + b = s
        · rw [if_pos c1]
          by_cases c2 : r < max a b
          · rw [if_pos c2]; exact hz a b hb.2.2.1 hb.2.2.2 (Or.inl c1) (by omega)
          · rw [if_neg c2]
        · rw [if_neg c1]
          by_cases c2 : a + b + 1 = s
          · rw [if_pos c2]
            by_cases c3 : r ≤ max a b
            · rw [if_pos c3, hz a b hb.2.2.1 hb.2.2.2 (Or.inr c2) (by omega)]
              exact (DD_zero (fun x y hx hy e m => hz x y hx hy (Or.inl (by omega)) (by omega))).symm
            · rw [if_neg c3]
          · rw [if_neg c2]
      · rw [if_neg c]
    have hrun : sJ (dl i (fun x y => p (Ci i u v x y)) s) (st + 1 + 1) (s - (st + 1)) = 0 := by
      refine sJ_zero _ _ (fun t x y => ?_)
      unfold dl
      have z : ∀ a b, a + b = s → mx < max a b → bP i (fun x y => p (Ci i u v x y)) a b = 0 := by
        intro a b e m
        by_cases c : a ≤ 9 - i ∧ b ≤ 8 - i
        · rw [bP_in c]; exact hz a b c.1 c.2 (Or.inl e) m
        · exact bP_out c
      rw [z _ _ (by omega) (by omega), z _ _ (by omega) (by omega)]
      grind
    by_cases hlt : st < lo
    · refine ⟨p, ?_, fun u' v' a b hb => by rw [← hfin u' v' a b hb]; exact hini lo hlt u' v' a b hb⟩
      rw [key, est]
      have go : ∀ fl, 0 < fl → fX2_lowerLine_L43 top (nI i) (nI (u * Sc (pp_ i) + v * Sc (qq_ i))) (nI s) fl p 0 (nI st) = some p := by
        intro fl hf
        obtain ⟨fl, rfl⟩ : ∃ q, fl = q + 1 := ⟨fl - 1, by omega⟩
        simp only [fX2_lowerLine_L43, i_lit]
        rw [if_pos (ll_out s (by omega) st (by omega) ⟨by omega, by omega⟩)]
      exact go fu fu_pos
    · obtain ⟨q', e1, e2⟩ := low_L hi hu hv (by omega : 1 ≤ s) hs26 (top := top) (p := p) hlo (st + 1 - lo) fu p (by rw [fu_s]; omega) (by omega) (by omega) (hini _ (by omega))
      refine ⟨q', ?_, fun u' v' a b hb => by rw [← hfin u' v' a b hb]; exact e2 u' v' a b hb⟩
      rw [show lo + (st + 1 - lo) = st + 1 by omega, show s - lo - (st + 1 - lo) = s - (st + 1) by omega, hrun, nI_dec (by omega), show st + 1 - 1 = st by omega] at e1
      rw [key, est]
      exact e1
theorem ll_neg : ∀ z, z < 20 → ∀ m, m < 11 → 1 ≤ z → (¬ (nI m < -nI z - nI 1) ∧ nI 2 * (-nI z - nI 1) < -nI z - nI 2) := by decide +kernel
theorem low_neg {i z base : Nat} (hi : I3 i) (hz1 : 1 ≤ z) (hz : z < 20) {top : Nat → Int32} {T1 T2 : Nat} (t1 : top i = nI T1) (t2 : top (i + 1) = nI T2) (hT1 : T1 ≤ 9) (hT2 : T2 ≤ 9) {p : Nat → Int64} : fX2_lowerLine p top (nI i) (nI base) (-nI z) = some p := by
  have i1 := hi.ge
  have i3 := hi.le
  obtain ⟨mx, hmx⟩ : ∃ mx, mx = max T1 T2 := ⟨_, rfl⟩
  have emx : (if nI T1 < nI T2 then nI T2 else nI T1) = nI mx := by
    rw [hmx]; exact i_max (by omega) (by omega)
  obtain ⟨n1, n2⟩ := ll_neg z hz mx (by omega) hz1
  simp only [fX2_lowerLine, i_lit, nmE, nI_add]
  rw [if_neg (fun q => by rw [nI_ltI (by omega) (by omega)] at q; omega : ¬ nI i < nI 1), if_pos ((nI_ltI (by omega) (by omega)).mpr (by omega) : nI i < nI 4), gI_at (by omega) (by decide), gI_at (by omega) (by decide), t1, t2, emx, if_neg n1]
  have go : ∀ fl, 0 < fl → fX2_lowerLine_L43 top (nI i) (nI base) (-nI z) fl p 0 (-nI z - nI 1) = some p := by
    intro fl hf
    obtain ⟨fl, rfl⟩ : ∃ q, fl = q + 1 := ⟨fl - 1, by omega⟩
    simp only [fX2_lowerLine_L43, i_lit]
    rw [if_pos n2]
  exact go fu fu_pos
