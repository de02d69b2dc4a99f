abbrev wdX1_isFit (G : GX) (q0 : Nat) (q0_row : Nat) (k0_row : Nat → Int32) : va_W := [(q0, .inr (1, [.ref q0_row])), (q0_row, .inl (G.2.1, 10, .inl k0_row))]
abbrev rmX1_isFit : Room := { frames := 1, cells := 0, slots := 0, locals := 22 }
abbrev glX1_isFit (p : Program) (l : Launch) (e : Env) (s : State) (m : MethodId) (args : Array Value) (below : List Frame) (meth : Method) (c : Code) (G : GX) (A : Nat → Prop) (q0 : Nat) (q0_row : Nat) (k0_row : Nat → Int32) (res : Int32) (H : Heap) (locs : List Loc) (pc : Nat) (ls : Array Slot) (st : List Value) : Prop := W p l e rmX1_isFit s m args below meth c H locs 0 0 (MQ below (ctQ G A (wdX1_isFit G q0 q0_row k0_row) (some (.int res))) args s 0 0 A) (F0 m pc ls st)
set_option maxHeartbeats 4000000 in
set_option maxRecDepth 100000 in
theorem tX1_isFit (l : Launch) (G : GX) (q0 : Nat) (q0_row : Nat) (k0_row : Nat → Int32) (res : Int32) (hf : fX1_isFit k0_row = some res) : Ct l yX1_isFit wsX1_isFit rmX1_isFit G [.ref q0] (wdX1_isFit G q0 q0_row k0_row) (wdX1_isFit G q0 q0_row k0_row) (some (.int res)) := by
  refine Ct.of (cc := cX1_isFit) (nL := 1) (ret := (some .boolean)) (by decide) rfl (Nat.le_of_ble_eq_true rfl) rfl ?_
  intro p e s m below meth c A ls C hP hD hl
  obtain ⟨hx, hb, hml, hown, hts, hr, hlocks, hA, hG⟩ := id C
  have hS : va_S A s.heap s.heap [] := va_S.rf
  unfold fX1_isFit at hf
  refine lv_aload_n hx hb dX1_isFit_0 rfl (lv_at hl 0 rfl) ?_
  obtain ⟨r1, hr1, hf⟩ := bd_use hf
  refine cl_V (wn := (wdX1_isFit G q0 q0_row k0_row)) (st1 := [.int r1]) C hP hD hS (tX1_lastDescent l G q0 q0_row k0_row r1 hr1) (cwV 0 hts gX1_isFit_X1_lastDescent rfl rfl rfl (by decide +kernel) ⟨Nat.le_of_ble_eq_true rfl, Nat.le_of_ble_eq_true rfl⟩) [0, 1] [] [0, 1] rfl rfl rfl rfl (by decide) rfl rfl (ci := 1) (q0 := 0) rfl rfl rfl rfl hl.1 rfl rfl (Nat.le_of_ble_eq_true rfl) dX1_isFit_1 (fun H locs hP hD hS => ?_)
  refine lv_iconst (v := (4 : Int32)) hx hb dX1_isFit_4 (by decide) ?_
  refine lv_icmp_gt (tgt := 12) hx hb dX1_isFit_5 (by decide) (fun hc => ?_) (fun hc => ?_)
  · have hf := if_t hc hf
    refine lv_iconst (v := (0 : Int32)) hx hb dX1_isFit_12 (by decide) ?_
    cases hf
    exact rt_z C (Or.inl rfl) hP hD hS dX1_isFit_13
  · have hf := if_f hc hf
    refine lv_iconst (v := (1 : Int32)) hx hb dX1_isFit_8 (by decide) ?_
    refine lv_goto (tgt := 13) hx hb dX1_isFit_9 (by decide) ?_
    cases hf
    exact rt_z C (Or.inr rfl) hP hD hS dX1_isFit_13
abbrev wdX1_lastLessThan (G : GX) (q0 : Nat) (q0_row : Nat) (k0_row : Nat → Int32) : va_W := [(q0, .inr (1, [.ref q0_row])), (q0_row, .inl (G.2.1, 10, .inl k0_row))]
abbrev rmX1_lastLessThan : Room := { frames := 1, cells := 0, slots := 0, locals := 21 }
abbrev glX1_lastLessThan (p : Program) (l : Launch) (e : Env) (s : State) (m : MethodId) (args : Array Value) (below : List Frame) (meth : Method) (c : Code) (G : GX) (A : Nat → Prop) (q0 : Nat) (q0_row : Nat) (k0_row : Nat → Int32) (res : Int32) (H : Heap) (locs : List Loc) (pc : Nat) (ls : Array Slot) (st : List Value) : Prop := W p l e rmX1_lastLessThan s m args below meth c H locs 0 0 (MQ below (ctQ G A (wdX1_lastLessThan G q0 q0_row k0_row) (some (.int res))) args s 0 0 A) (F0 m pc ls st)
set_option maxRecDepth 20000 in
theorem mX1_lastLessThan_0 : Cond.fieldLink RX1 9 "SchubertDesk$Digits" "row" "[I" ∈ wsX1_lastLessThan := by decide +kernel
set_option maxRecDepth 20000 in
theorem nX1_lastLessThan_X1 : ∀ w ∈ u_ws RX1 TX1 1, w ∈ wsX1_lastLessThan := by decide +kernel
set_option maxHeartbeats 4000000 in
set_option maxRecDepth 100000 in
theorem wX1_lastLessThan_4 {p : Program} {l : Launch} {e : Env} {s : State} {m : MethodId} {args : Array Value} {below : List Frame} {meth : Method} {c : Code} {G : GX} {A : Nat → Prop} (C : Cx p s m args meth c cX1_lastLessThan 4 (some .int) wsX1_lastLessThan RX1 G A) (q0 : Nat) (q0_row : Nat) (k0_row : Nat → Int32) (p1 : Int32) (res : Int32) (n : Nat) : ∀ (x2 : Int32) (x3 : Int32) (H : Heap) (locs : List Loc) (ls : Array Slot), fX1_lastLessThan_L4 k0_row p1 n x2 x3 = some res → va_P G.1 vwCl (wdX1_lastLessThan G q0 q0_row k0_row) H → va_D A (wdX1_lastLessThan G q0 q0_row k0_row) → va_S A s.heap H locs → lv_has ls 4 [(0, .ref q0), (1, .int p1), (2, .int x2), (3, .int x3)] → glX1_lastLessThan p l e s m args below meth c G A q0 q0_row k0_row res H locs 4 ls [] := by
  obtain ⟨hx, hb, hml, hown, hts, hr, hlocks, hA, hG⟩ := id C
  induction n with
  | zero => intro x2 x3 H locs ls hf hP hD hS hl; cases hf
  | succ n ih =>
    intro x2 x3 H locs ls hf hP hD hS hl
    simp only [fX1_lastLessThan_L4] at hf
    refine lv_iload_n hx hb dX1_lastLessThan_4 rfl (lv_at hl 3 rfl) ?_
    refine lv_bipush (v := (9 : Int32)) hx hb dX1_lastLessThan_5 (by decide) ?_
    refine lv_icmp_gt (tgt := 32) hx hb dX1_lastLessThan_7 (by decide) (fun hc => ?_) (fun hc => ?_)
    · have hf := if_t hc hf
      refine lv_iload_n hx hb dX1_lastLessThan_32 rfl (lv_at hl 2 rfl) ?_
      cases hf
      exact rt_i C hP hD hS dX1_lastLessThan_33
    · have hf := if_f hc hf
      refine lv_aload_n hx hb dX1_lastLessThan_10 rfl (lv_at hl 0 rfl) ?_
      refine va_get (D := G.1) (ci := 1) (v := .ref q0_row) (C := RX1) (T := TX1) (N := 1) hx hb hts nX1_lastLessThan_X1 hown hG.1 hP 0 rfl rfl 0 (by decide) (hts _ mX1_lastLessThan_0) (fun _ h9 => h9) rfl dX1_lastLessThan_11 ?_
      refine lv_iload_n hx hb dX1_lastLessThan_14 rfl (lv_at hl 3 rfl) ?_
      obtain ⟨hin, hf⟩ := gI_use hf
      refine va_iald hx hb hG.1 hP 1 0 rfl rfl hin dX1_lastLessThan_15 ?_
      refine lv_aload_n hx hb dX1_lastLessThan_16 rfl (lv_at hl 0 rfl) ?_
      refine lv_iload_n hx hb dX1_lastLessThan_17 rfl (lv_at hl 1 rfl) ?_
      obtain ⟨r2, hr2, hf⟩ := bd_use hf
      refine cl_V (wn := (wdX1_lastLessThan G q0 q0_row k0_row)) (st1 := [.int r2, .int (k0_row (x3).toNatClampNeg)]) C hP hD hS (tX1_digit l G q0 q0_row k0_row p1 r2 hr2) (cwV 1 hts gX1_lastLessThan_X1_digit rfl rfl rfl (by decide +kernel) ⟨Nat.le_of_ble_eq_true rfl, Nat.le_of_ble_eq_true rfl⟩) [0, 1] [] [0, 1] rfl rfl rfl rfl (by decide) rfl rfl (ci := 1) (q0 := 0) rfl rfl rfl rfl hl.1 rfl rfl (Nat.le_of_ble_eq_true rfl) dX1_lastLessThan_18 (fun H locs hP hD hS => ?_)
      refine lv_icmp_ge (tgt := 26) hx hb dX1_lastLessThan_21 (by decide) (fun hc => ?_) (fun hc => ?_)
      · have hf := if_t hc hf
        obtain ⟨y3, ey3⟩ : ∃ z : Int32, z = x3 + (1 : Int32) := ⟨_, rfl⟩
        have hf := nm_use ey3 hf
        refine lv_iinc (v := y3) (lv' := [(3, .int y3), (0, .ref q0), (1, .int p1), (2, .int x2)]) hx hb dX1_lastLessThan_26 hl (k := 3) rfl (by rw [ey3]; rfl) (by decide) rfl (fun ls hl => ?_)
        refine lv_goto (tgt := 4) hx hb dX1_lastLessThan_29 (by decide) ?_
        exact ih x2 y3 _ _ ls hf hP hD hS (lv_sub hl [1, 2, 3, 0] rfl)
      · have hf := if_f hc hf
        refine lv_iload_n hx hb dX1_lastLessThan_24 rfl (lv_at hl 3 rfl) ?_
        refine lv_istore_n (lv' := [(2, .int x3), (0, .ref q0), (1, .int p1), (3, .int x3)]) hx hb dX1_lastLessThan_25 rfl hl (by decide) rfl (fun ls hl => ?_)
        obtain ⟨y4, ey4⟩ : ∃ z : Int32, z = x3 + (1 : Int32) := ⟨_, rfl⟩
        have hf := nm_use ey4 hf
        refine lv_iinc (v := y4) (lv' := [(3, .int y4), (2, .int x3), (0, .ref q0), (1, .int p1)]) hx hb dX1_lastLessThan_26 hl (k := 3) rfl (by rw [ey4]; rfl) (by decide) rfl (fun ls hl => ?_)
        refine lv_goto (tgt := 4) hx hb dX1_lastLessThan_29 (by decide) ?_
        exact ih x3 y4 _ _ ls hf hP hD hS (lv_sub hl [2, 3, 1, 0] rfl)
set_option maxHeartbeats 4000000 in
set_option maxRecDepth 100000 in
theorem tX1_lastLessThan (l : Launch) (G : GX) (q0 : Nat) (q0_row : Nat) (k0_row : Nat → Int32) (p1 : Int32) (res : Int32) (hf : fX1_lastLessThan k0_row p1 = some res) : Ct l yX1_lastLessThan wsX1_lastLessThan rmX1_lastLessThan G [.ref q0, .int p1] (wdX1_lastLessThan G q0 q0_row k0_row) (wdX1_lastLessThan G q0 q0_row k0_row) (some (.int res)) := by
  refine Ct.of (cc := cX1_lastLessThan) (nL := 4) (ret := (some .int)) (by decide) rfl (Nat.le_of_ble_eq_true rfl) rfl ?_
  intro p e s m below meth c A ls C hP hD hl
  obtain ⟨hx, hb, hml, hown, hts, hr, hlocks, hA, hG⟩ := id C
  have hS : va_S A s.heap s.heap [] := va_S.rf
  unfold fX1_lastLessThan at hf
  refine lv_iload_n hx hb dX1_lastLessThan_0 rfl (lv_at hl 1 rfl) ?_
  refine lv_istore_n (lv' := [(2, .int p1), (0, .ref q0), (1, .int p1)]) hx hb dX1_lastLessThan_1 rfl hl (by decide) rfl (fun ls hl => ?_)
  refine lv_iconst (v := (1 : Int32)) hx hb dX1_lastLessThan_2 (by decide) ?_
  refine lv_istore_n (lv' := [(3, .int (1 : Int32)), (2, .int p1), (0, .ref q0), (1, .int p1)]) hx hb dX1_lastLessThan_3 rfl hl (by decide) rfl (fun ls hl => ?_)
  exact wX1_lastLessThan_4 C q0 q0_row k0_row p1 res fu p1 (1 : Int32) _ _ ls hf hP hD hS (lv_sub hl [2, 3, 1, 0] rfl)
abbrev wdX1_isBelow (G : GX) (q0 : Nat) (q0_row : Nat) (q1 : Nat) (q1_row : Nat) (k0_row : Nat → Int32) (k1_row : Nat → Int32) : va_W := [(q0, .inr (1, [.ref q0_row])), (q0_row, .inl (G.2.1, 10, .inl k0_row)), (q1, .inr (1, [.ref q1_row])), (q1_row, .inl (G.2.1, 10, .inl k1_row))]
abbrev rmX1_isBelow : Room := { frames := 0, cells := 0, slots := 0, locals := 0 }
abbrev glX1_isBelow (p : Program) (l : Launch) (e : Env) (s : State) (m : MethodId) (args : Array Value) (below : List Frame) (meth : Method) (c : Code) (G : GX) (A : Nat → Prop) (q0 : Nat) (q0_row : Nat) (q1 : Nat) (q1_row : Nat) (k0_row : Nat → Int32) (k1_row : Nat → Int32) (res : Int32) (H : Heap) (locs : List Loc) (pc : Nat) (ls : Array Slot) (st : List Value) : Prop := W p l e rmX1_isBelow s m args below meth c H locs 0 0 (MQ below (ctQ G A (wdX1_isBelow G q0 q0_row q1 q1_row k0_row k1_row) (some (.int res))) args s 0 0 A) (F0 m pc ls st)
set_option maxRecDepth 20000 in
theorem mX1_isBelow_0 : Cond.fieldLink RX1 9 "SchubertDesk$Digits" "row" "[I" ∈ wsX1_isBelow := by decide +kernel
set_option maxRecDepth 20000 in
theorem nX1_isBelow_X1 : ∀ w ∈ u_ws RX1 TX1 1, w ∈ wsX1_isBelow := by decide +kernel
set_option maxHeartbeats 4000000 in
set_option maxRecDepth 100000 in
theorem wX1_isBelow_56 {p : Program} {l : Launch} {e : Env} {s : State} {m : MethodId} {args : Array Value} {below : List Frame} {meth : Method} {c : Code} {G : GX} {A : Nat → Prop} (C : Cx p s m args meth c cX1_isBelow 5 (some .boolean) wsX1_isBelow RX1 G A) (q0 : Nat) (q0_row : Nat) (q1 : Nat) (q1_row : Nat) (k0_row : Nat → Int32) (k1_row : Nat → Int32) (res : Int32) (rec2 : Int32 → Option (Int32)) (hr2 : ∀ (x2 : Int32) (H : Heap) (locs : List Loc) (ls : Array Slot), rec2 x2 = some res → va_P G.1 vwCl (wdX1_isBelow G q0 q0_row q1 q1_row k0_row k1_row) H → va_D A (wdX1_isBelow G q0 q0_row q1 q1_row k0_row k1_row) → va_S A s.heap H locs → lv_has ls 5 [(0, .ref q0), (1, .ref q1), (2, .int x2)] → glX1_isBelow p l e s m args below meth c G A q0 q0_row q1 q1_row k0_row k1_row res H locs 2 ls []) (rec13 : Int32 → Int32 → Int32 → Option (Int32)) (hr13 : ∀ (x2 : Int32) (x3 : Int32) (x4 : Int32) (H : Heap) (locs : List Loc) (ls : Array Slot), rec13 x2 x3 x4 = some res → va_P G.1 vwCl (wdX1_isBelow G q0 q0_row q1 q1_row k0_row k1_row) H → va_D A (wdX1_isBelow G q0 q0_row q1 q1_row k0_row k1_row) → va_S A s.heap H locs → lv_has ls 5 [(0, .ref q0), (1, .ref q1), (2, .int x2), (3, .int x3), (4, .int x4)] → glX1_isBelow p l e s m args below meth c G A q0 q0_row q1 q1_row k0_row k1_row res H locs 13 ls []) : ∀ (x2 : Int32) (x4 : Int32) (s0 : Int32) (s1 : Int32) (H : Heap) (locs : List Loc) (ls : Array Slot), fX1_isBelow_b56 k0_row k1_row rec2 rec13 x2 x4 s0 s1 = some res → va_P G.1 vwCl (wdX1_isBelow G q0 q0_row q1 q1_row k0_row k1_row) H → va_D A (wdX1_isBelow G q0 q0_row q1 q1_row k0_row k1_row) → va_S A s.heap H locs → lv_has ls 5 [(0, .ref q0), (1, .ref q1), (2, .int x2), (4, .int x4)] → glX1_isBelow p l e s m args below meth c G A q0 q0_row q1 q1_row k0_row k1_row res H locs 56 ls [.int s1, .int s0] := by
  obtain ⟨hx, hb, hml, hown, hts, hr, hlocks, hA, hG⟩ := id C
  intro x2 x4 s0 s1 H locs ls hf hP hD hS hl
  unfold fX1_isBelow_b56 at hf
  refine lv_isub hx hb dX1_isBelow_56 ?_
  refine lv_topi (fun y1 ey1 => ?_)
  have hf := nm_use ey1 hf
  refine lv_istore_n (lv' := [(3, .int y1), (0, .ref q0), (1, .ref q1), (2, .int x2), (4, .int x4)]) hx hb dX1_isBelow_57 rfl hl (by decide) rfl (fun ls hl => ?_)
  refine lv_iload_n hx hb dX1_isBelow_58 rfl (lv_at hl 0 rfl) ?_
  refine lv_if_le (tgt := 64) hx hb dX1_isBelow_59 (by decide) (fun hc => ?_) (fun hc => ?_)
  · have hf := if_t hc hf
    obtain ⟨y2, ey2⟩ : ∃ z : Int32, z = x4 + (1 : Int32) := ⟨_, rfl⟩
    have hf := nm_use ey2 hf
    refine lv_iinc (v := y2) (lv' := [(4, .int y2), (3, .int y1), (0, .ref q0), (1, .ref q1), (2, .int x2)]) hx hb dX1_isBelow_64 hl (k := 4) rfl (by rw [ey2]; rfl) (by decide) rfl (fun ls hl => ?_)
    refine lv_goto (tgt := 13) hx hb dX1_isBelow_67 (by decide) ?_
    exact hr13 x2 y1 y2 _ _ ls hf hP hD hS (lv_sub hl [2, 3, 4, 1, 0] rfl)
  · have hf := if_f hc hf
    refine lv_iconst (v := (0 : Int32)) hx hb dX1_isBelow_62 (by decide) ?_
    cases hf
    exact rt_z C (Or.inl rfl) hP hD hS dX1_isBelow_63
set_option maxHeartbeats 4000000 in
set_option maxRecDepth 100000 in
theorem wX1_isBelow_37 {p : Program} {l : Launch} {e : Env} {s : State} {m : MethodId} {args : Array Value} {below : List Frame} {meth : Method} {c : Code} {G : GX} {A : Nat → Prop} (C : Cx p s m args meth c cX1_isBelow 5 (some .boolean) wsX1_isBelow RX1 G A) (q0 : Nat) (q0_row : Nat) (q1 : Nat) (q1_row : Nat) (k0_row : Nat → Int32) (k1_row : Nat → Int32) (res : Int32) (rec2 : Int32 → Option (Int32)) (hr2 : ∀ (x2 : Int32) (H : Heap) (locs : List Loc) (ls : Array Slot), rec2 x2 = some res → va_P G.1 vwCl (wdX1_isBelow G q0 q0_row q1 q1_row k0_row k1_row) H → va_D A (wdX1_isBelow G q0 q0_row q1 q1_row k0_row k1_row) → va_S A s.heap H locs → lv_has ls 5 [(0, .ref q0), (1, .ref q1), (2, .int x2)] → glX1_isBelow p l e s m args below meth c G A q0 q0_row q1 q1_row k0_row k1_row res H locs 2 ls []) (rec13 : Int32 → Int32 → Int32 → Option (Int32)) (hr13 : ∀ (x2 : Int32) (x3 : Int32) (x4 : Int32) (H : Heap) (locs : List Loc) (ls : Array Slot), rec13 x2 x3 x4 = some res → va_P G.1 vwCl (wdX1_isBelow G q0 q0_row q1 q1_row k0_row k1_row) H → va_D A (wdX1_isBelow G q0 q0_row q1 q1_row k0_row k1_row) → va_S A s.heap H locs → lv_has ls 5 [(0, .ref q0), (1, .ref q1), (2, .int x2), (3, .int x3), (4, .int x4)] → glX1_isBelow p l e s m args below meth c G A q0 q0_row q1 q1_row k0_row k1_row res H locs 13 ls []) : ∀ (x2 : Int32) (x4 : Int32) (s0 : Int32) (s1 : Int32) (H : Heap) (locs : List Loc) (ls : Array Slot), fX1_isBelow_b37 k0_row k1_row rec2 rec13 x2 x4 s0 s1 = some res → va_P G.1 vwCl (wdX1_isBelow G q0 q0_row q1 q1_row k0_row k1_row) H → va_D A (wdX1_isBelow G q0 q0_row q1 q1_row k0_row k1_row) → va_S A s.heap H locs → lv_has ls 5 [(0, .ref q0), (1, .ref q1), (2, .int x2), (4, .int x4)] → glX1_isBelow p l e s m args below meth c G A q0 q0_row q1 q1_row k0_row k1_row res H locs 37 ls [.int s1, .int s0] := by
  obtain ⟨hx, hb, hml, hown, hts, hr, hlocks, hA, hG⟩ := id C
  intro x2 x4 s0 s1 H locs ls hf hP hD hS hl
  unfold fX1_isBelow_b37 at hf
  refine lv_iadd hx hb dX1_isBelow_37 ?_
  refine lv_topi (fun y3 ey3 => ?_)
  have hf := nm_use ey3 hf
  refine lv_istore_n (lv' := [(3, .int y3), (0, .ref q0), (1, .ref q1), (2, .int x2), (4, .int x4)]) hx hb dX1_isBelow_38 rfl hl (by decide) rfl (fun ls hl => ?_)
  refine lv_iload_n hx hb dX1_isBelow_39 rfl (lv_at hl 0 rfl) ?_
  refine lv_aload_n hx hb dX1_isBelow_40 rfl (lv_at hl 2 rfl) ?_
  refine va_get (D := G.1) (ci := 1) (v := .ref q1_row) (C := RX1) (T := TX1) (N := 1) hx hb hts nX1_isBelow_X1 hown hG.1 hP 2 rfl rfl 0 (by decide) (hts _ mX1_isBelow_0) (fun _ h9 => h9) rfl dX1_isBelow_41 ?_
  refine lv_iload hx hb dX1_isBelow_44 (lv_at hl 4 rfl) ?_
  obtain ⟨hin, hf⟩ := gI_use hf
  refine va_iald hx hb hG.1 hP 3 0 rfl rfl hin dX1_isBelow_46 ?_
  refine lv_iload_n hx hb dX1_isBelow_47 rfl (lv_at hl 3 rfl) ?_
  refine lv_icmp_lt (tgt := 55) hx hb dX1_isBelow_48 (by decide) (fun hc => ?_) (fun hc => ?_)
  · have hf := if_t hc hf
    refine lv_iconst (v := (0 : Int32)) hx hb dX1_isBelow_55 (by decide) ?_
    exact wX1_isBelow_56 C q0 q0_row q1 q1_row k0_row k1_row res rec2 hr2 rec13 hr13 x2 x4 y3 (0 : Int32) _ _ ls hf hP hD hS (lv_sub hl [1, 2, 3, 4] rfl)
  · have hf := if_f hc hf
    refine lv_iconst (v := (1 : Int32)) hx hb dX1_isBelow_51 (by decide) ?_
    refine lv_goto (tgt := 56) hx hb dX1_isBelow_52 (by decide) ?_
    exact wX1_isBelow_56 C q0 q0_row q1 q1_row k0_row k1_row res rec2 hr2 rec13 hr13 x2 x4 y3 (1 : Int32) _ _ ls hf hP hD hS (lv_sub hl [1, 2, 3, 4] rfl)
set_option maxHeartbeats 4000000 in
set_option maxRecDepth 100000 in
theorem wX1_isBelow_13 {p : Program} {l : Launch} {e : Env} {s : State} {m : MethodId} {args : Array Value} {below : List Frame} {meth : Method} {c : Code} {G : GX} {A : Nat → Prop} (C : Cx p s m args meth c cX1_isBelow 5 (some .boolean) wsX1_isBelow RX1 G A) (q0 : Nat) (q0_row : Nat) (q1 : Nat) (q1_row : Nat) (k0_row : Nat → Int32) (k1_row : Nat → Int32) (res : Int32) (rec2 : Int32 → Option (Int32)) (hr2 : ∀ (x2 : Int32) (H : Heap) (locs : List Loc) (ls : Array Slot), rec2 x2 = some res → va_P G.1 vwCl (wdX1_isBelow G q0 q0_row q1 q1_row k0_row k1_row) H → va_D A (wdX1_isBelow G q0 q0_row q1 q1_row k0_row k1_row) → va_S A s.heap H locs → lv_has ls 5 [(0, .ref q0), (1, .ref q1), (2, .int x2)] → glX1_isBelow p l e s m args below meth c G A q0 q0_row q1 q1_row k0_row k1_row res H locs 2 ls []) (n : Nat) : ∀ (x2 : Int32) (x3 : Int32) (x4 : Int32) (H : Heap) (locs : List Loc) (ls : Array Slot), fX1_isBelow_L13 k0_row k1_row rec2 n x2 x3 x4 = some res → va_P G.1 vwCl (wdX1_isBelow G q0 q0_row q1 q1_row k0_row k1_row) H → va_D A (wdX1_isBelow G q0 q0_row q1 q1_row k0_row k1_row) → va_S A s.heap H locs → lv_has ls 5 [(0, .ref q0), (1, .ref q1), (2, .int x2), (3, .int x3), (4, .int x4)] → glX1_isBelow p l e s m args below meth c G A q0 q0_row q1 q1_row k0_row k1_row res H locs 13 ls [] := by
  obtain ⟨hx, hb, hml, hown, hts, hr, hlocks, hA, hG⟩ := id C
  induction n with
  | zero => intro x2 x3 x4 H locs ls hf hP hD hS hl; cases hf
  | succ n ih =>
    intro x2 x3 x4 H locs ls hf hP hD hS hl
    simp only [fX1_isBelow_L13] at hf
    refine lv_iload hx hb dX1_isBelow_13 (lv_at hl 4 rfl) ?_
    refine lv_bipush (v := (9 : Int32)) hx hb dX1_isBelow_15 (by decide) ?_
    refine lv_icmp_gt (tgt := 70) hx hb dX1_isBelow_17 (by decide) (fun hc => ?_) (fun hc => ?_)
    · have hf := if_t hc hf
      obtain ⟨y5, ey5⟩ : ∃ z : Int32, z = x2 + (1 : Int32) := ⟨_, rfl⟩
      have hf := nm_use ey5 hf
      refine lv_iinc (v := y5) (lv' := [(2, .int y5), (0, .ref q0), (1, .ref q1), (3, .int x3), (4, .int x4)]) hx hb dX1_isBelow_70 hl (k := 2) rfl (by rw [ey5]; rfl) (by decide) rfl (fun ls hl => ?_)
      refine lv_goto (tgt := 2) hx hb dX1_isBelow_73 (by decide) ?_
      exact hr2 y5 _ _ ls hf hP hD hS (lv_sub hl [1, 2, 0] rfl)
    · have hf := if_f hc hf
      refine lv_iload_n hx hb dX1_isBelow_20 rfl (lv_at hl 3 rfl) ?_
      refine lv_aload_n hx hb dX1_isBelow_21 rfl (lv_at hl 0 rfl) ?_
      refine va_get (D := G.1) (ci := 1) (v := .ref q0_row) (C := RX1) (T := TX1) (N := 1) hx hb hts nX1_isBelow_X1 hown hG.1 hP 0 rfl rfl 0 (by decide) (hts _ mX1_isBelow_0) (fun _ h9 => h9) rfl dX1_isBelow_22 ?_
      refine lv_iload hx hb dX1_isBelow_25 (lv_at hl 4 rfl) ?_
      obtain ⟨hin, hf⟩ := gI_use hf
      refine va_iald hx hb hG.1 hP 1 0 rfl rfl hin dX1_isBelow_27 ?_
      refine lv_iload_n hx hb dX1_isBelow_28 rfl (lv_at hl 2 rfl) ?_
      refine lv_icmp_lt (tgt := 36) hx hb dX1_isBelow_29 (by decide) (fun hc => ?_) (fun hc => ?_)
      · have hf := if_t hc hf
        refine lv_iconst (v := (0 : Int32)) hx hb dX1_isBelow_36 (by decide) ?_
        exact wX1_isBelow_37 C q0 q0_row q1 q1_row k0_row k1_row res rec2 hr2 (fX1_isBelow_L13 k0_row k1_row rec2 n) ih x2 x4 x3 (0 : Int32) _ _ ls hf hP hD hS (lv_sub hl [0, 1, 2, 4] rfl)
      · have hf := if_f hc hf
        refine lv_iconst (v := (1 : Int32)) hx hb dX1_isBelow_32 (by decide) ?_
        refine lv_goto (tgt := 37) hx hb dX1_isBelow_33 (by decide) ?_
        exact wX1_isBelow_37 C q0 q0_row q1 q1_row k0_row k1_row res rec2 hr2 (fX1_isBelow_L13 k0_row k1_row rec2 n) ih x2 x4 x3 (1 : Int32) _ _ ls hf hP hD hS (lv_sub hl [0, 1, 2, 4] rfl)
set_option maxHeartbeats 4000000 in
set_option maxRecDepth 100000 in
theorem wX1_isBelow_2 {p : Program} {l : Launch} {e : Env} {s : State} {m : MethodId} {args : Array Value} {below : List Frame} {meth : Method} {c : Code} {G : GX} {A : Nat → Prop} (C : Cx p s m args meth c cX1_isBelow 5 (some .boolean) wsX1_isBelow RX1 G A) (q0 : Nat) (q0_row : Nat) (q1 : Nat) (q1_row : Nat) (k0_row : Nat → Int32) (k1_row : Nat → Int32) (res : Int32) (n : Nat) : ∀ (x2 : Int32) (H : Heap) (locs : List Loc) (ls : Array Slot), fX1_isBelow_L2 k0_row k1_row n x2 = some res → va_P G.1 vwCl (wdX1_isBelow G q0 q0_row q1 q1_row k0_row k1_row) H → va_D A (wdX1_isBelow G q0 q0_row q1 q1_row k0_row k1_row) → va_S A s.heap H locs → lv_has ls 5 [(0, .ref q0), (1, .ref q1), (2, .int x2)] → glX1_isBelow p l e s m args below meth c G A q0 q0_row q1 q1_row k0_row k1_row res H locs 2 ls [] := by
  obtain ⟨hx, hb, hml, hown, hts, hr, hlocks, hA, hG⟩ := id C
  induction n with
  | zero => intro x2 H locs ls hf hP hD hS hl; cases hf
  | succ n ih =>
    intro x2 H locs ls hf hP hD hS hl
    simp only [fX1_isBelow_L2] at hf
    refine lv_iload_n hx hb dX1_isBelow_2 rfl (lv_at hl 2 rfl) ?_
    refine lv_bipush (v := (9 : Int32)) hx hb dX1_isBelow_3 (by decide) ?_
    refine lv_icmp_gt (tgt := 76) hx hb dX1_isBelow_5 (by decide) (fun hc => ?_) (fun hc => ?_)
    · have hf := if_t hc hf
      refine lv_iconst (v := (1 : Int32)) hx hb dX1_isBelow_76 (by decide) ?_
      cases hf
      exact rt_z C (Or.inr rfl) hP hD hS dX1_isBelow_77
    · have hf := if_f hc hf
      refine lv_iconst (v := (0 : Int32)) hx hb dX1_isBelow_8 (by decide) ?_
      refine lv_istore_n (lv' := [(3, .int (0 : Int32)), (0, .ref q0), (1, .ref q1), (2, .int x2)]) hx hb dX1_isBelow_9 rfl hl (by decide) rfl (fun ls hl => ?_)
      refine lv_iconst (v := (1 : Int32)) hx hb dX1_isBelow_10 (by decide) ?_
      refine lv_istore (lv' := [(4, .int (1 : Int32)), (3, .int (0 : Int32)), (0, .ref q0), (1, .ref q1), (2, .int x2)]) hx hb dX1_isBelow_11 hl (by decide) rfl (fun ls hl => ?_)
      exact wX1_isBelow_13 C q0 q0_row q1 q1_row k0_row k1_row res (fX1_isBelow_L2 k0_row k1_row n) ih fu x2 (0 : Int32) (1 : Int32) _ _ ls hf hP hD hS (lv_sub hl [2, 3, 4, 1, 0] rfl)
set_option maxHeartbeats 4000000 in
set_option maxRecDepth 100000 in
theorem tX1_isBelow (l : Launch) (G : GX) (q0 : Nat) (q0_row : Nat) (q1 : Nat) (q1_row : Nat) (k0_row : Nat → Int32) (k1_row : Nat → Int32) (res : Int32) (hf : fX1_isBelow k0_row k1_row = some res) : Ct l yX1_isBelow wsX1_isBelow rmX1_isBelow G [.ref q0, .ref q1] (wdX1_isBelow G q0 q0_row q1 q1_row k0_row k1_row) (wdX1_isBelow G q0 q0_row q1 q1_row k0_row k1_row) (some (.int res)) := by
  refine Ct.of (cc := cX1_isBelow) (nL := 5) (ret := (some .boolean)) (by decide) rfl (Nat.le_of_ble_eq_true rfl) rfl ?_
  intro p e s m below meth c A ls C hP hD hl
  obtain ⟨hx, hb, hml, hown, hts, hr, hlocks, hA, hG⟩ := id C
  have hS : va_S A s.heap s.heap [] := va_S.rf
  unfold fX1_isBelow at hf
  refine lv_iconst (v := (1 : Int32)) hx hb dX1_isBelow_0 (by decide) ?_
  refine lv_istore_n (lv' := [(2, .int (1 : Int32)), (0, .ref q0), (1, .ref q1)]) hx hb dX1_isBelow_1 rfl hl (by decide) rfl (fun ls hl => ?_)
  exact wX1_isBelow_2 C q0 q0_row q1 q1_row k0_row k1_row res fu (1 : Int32) _ _ ls hf hP hD hS (lv_sub hl [1, 2, 0] rfl)
abbrev wdX1_leastAhead (G : GX) (q0 : Nat) (q0_row : Nat) (k0_row : Nat → Int32) : va_W := [(q0, .inr (1, [.ref q0_row])), (q0_row, .inl (G.2.1, 10, .inl k0_row))]
abbrev rmX1_leastAhead : Room := { frames := 1, cells := 0, slots := 0, locals := 60 }
abbrev glX1_leastAhead (p : Program) (l : Launch) (e : Env) (s : State) (m : MethodId) (args : Array Value) (below : List Frame) (meth : Method) (c : Code) (G : GX) (A : Nat → Prop) (q0 : Nat) (q0_row : Nat) (k0_row : Nat → Int32) (res : Int32) (H : Heap) (locs : List Loc) (pc : Nat) (ls : Array Slot) (st : List Value) : Prop := W p l e rmX1_leastAhead s m args below meth c H locs 0 0 (MQ below (ctQ G A (wdX1_leastAhead G q0 q0_row k0_row) (some (.int res))) args s 0 0 A) (F0 m pc ls st)
set_option maxRecDepth 20000 in
theorem mX1_leastAhead_0 : Cond.methodLink RX1 60 Lib.Math.min.name ∈ wsX1_leastAhead := by decide +kernel
set_option maxRecDepth 20000 in
theorem mX1_leastAhead_1 : Cond.static Lib.Math.min.name ∈ wsX1_leastAhead := by decide +kernel
set_option maxRecDepth 20000 in
theorem mX1_leastAhead_2 : Cond.initialized "java/lang/Math" ∈ wsX1_leastAhead := by decide +kernel
set_option maxRecDepth 20000 in
theorem mX1_leastAhead_3 : Cond.code Lib.Math.min.name Lib.Math.min.code 2 (some .int) ∈ wsX1_leastAhead := by decide +kernel
set_option maxHeartbeats 4000000 in
set_option maxRecDepth 100000 in
theorem wX1_leastAhead_5 {p : Program} {l : Launch} {e : Env} {s : State} {m : MethodId} {args : Array Value} {below : List Frame} {meth : Method} {c : Code} {G : GX} {A : Nat → Prop} (C : Cx p s m args meth c cX1_leastAhead 4 (some .int) wsX1_leastAhead RX1 G A) (q0 : Nat) (q0_row : Nat) (k0_row : Nat → Int32) (p1 : Int32) (res : Int32) (n : Nat) : ∀ (x2 : Int32) (x3 : Int32) (H : Heap) (locs : List Loc) (ls : Array Slot), fX1_leastAhead_L5 k0_row p1 n x2 x3 = some res → va_P G.1 vwCl (wdX1_leastAhead G q0 q0_row k0_row) H → va_D A (wdX1_leastAhead G q0 q0_row k0_row) → va_S A s.heap H locs → lv_has ls 4 [(0, .ref q0), (1, .int p1), (2, .int x2), (3, .int x3)] → glX1_leastAhead p l e s m args below meth c G A q0 q0_row k0_row res H locs 5 ls [] := by
  obtain ⟨hx, hb, hml, hown, hts, hr, hlocks, hA, hG⟩ := id C
  induction n with
  | zero => intro x2 x3 H locs ls hf hP hD hS hl; cases hf
  | succ n ih =>
    intro x2 x3 H locs ls hf hP hD hS hl
    simp only [fX1_leastAhead_L5] at hf
    refine lv_iload_n hx hb dX1_leastAhead_5 rfl (lv_at hl 3 rfl) ?_
    refine lv_iload_n hx hb dX1_leastAhead_6 rfl (lv_at hl 1 rfl) ?_
    refine lv_icmp_ge (tgt := 26) hx hb dX1_leastAhead_7 (by decide) (fun hc => ?_) (fun hc => ?_)
    · have hf := if_t hc hf
      refine lv_iload_n hx hb dX1_leastAhead_26 rfl (lv_at hl 2 rfl) ?_
      cases hf
      exact rt_i C hP hD hS dX1_leastAhead_27
    · have hf := if_f hc hf
      refine lv_iload_n hx hb dX1_leastAhead_10 rfl (lv_at hl 2 rfl) ?_
      refine lv_aload_n hx hb dX1_leastAhead_11 rfl (lv_at hl 0 rfl) ?_
      refine lv_iload_n hx hb dX1_leastAhead_12 rfl (lv_at hl 3 rfl) ?_
      obtain ⟨r1, hr1, hf⟩ := bd_use hf
      refine cl_V (wn := (wdX1_leastAhead G q0 q0_row k0_row)) (st1 := [.int r1, .int x2]) C hP hD hS (tX1_digit l G q0 q0_row k0_row x3 r1 hr1) (cwV 1 hts gX1_leastAhead_X1_digit rfl rfl rfl (by decide +kernel) ⟨Nat.le_of_ble_eq_true rfl, Nat.le_of_ble_eq_true rfl⟩) [0, 1] [] [0, 1] rfl rfl rfl rfl (by decide) rfl rfl (ci := 1) (q0 := 0) rfl rfl rfl rfl hl.1 rfl rfl (Nat.le_of_ble_eq_true rfl) dX1_leastAhead_13 (fun H locs hP hD hS => ?_)
      refine va_mmin hx hb (hml.trans hl.1.symm) hown (hts _ mX1_leastAhead_0) (hts _ mX1_leastAhead_1) (hts _ mX1_leastAhead_2) (hts _ mX1_leastAhead_3) (Nat.le_of_ble_eq_true rfl) (Nat.le_of_ble_eq_true rfl) (Nat.zero_le _) (Nat.zero_le _) dX1_leastAhead_16 ?_
      refine lv_topi (fun y2 ey2 => ?_)
      have hf := nm_use ey2 hf
      refine lv_istore_n (lv' := [(2, .int y2), (0, .ref q0), (1, .int p1), (3, .int x3)]) hx hb dX1_leastAhead_19 rfl hl (by decide) rfl (fun ls hl => ?_)
      obtain ⟨y3, ey3⟩ : ∃ z : Int32, z = x3 + (1 : Int32) := ⟨_, rfl⟩
      have hf := nm_use ey3 hf
      refine lv_iinc (v := y3) (lv' := [(3, .int y3), (2, .int y2), (0, .ref q0), (1, .int p1)]) hx hb dX1_leastAhead_20 hl (k := 3) rfl (by rw [ey3]; rfl) (by decide) rfl (fun ls hl => ?_)
      refine lv_goto (tgt := 5) hx hb dX1_leastAhead_23 (by decide) ?_
      exact ih y2 y3 _ _ ls hf hP hD hS (lv_sub hl [2, 3, 1, 0] rfl)
set_option maxHeartbeats 4000000 in
set_option maxRecDepth 100000 in
theorem tX1_leastAhead (l : Launch) (G : GX) (q0 : Nat) (q0_row : Nat) (k0_row : Nat → Int32) (p1 : Int32) (res : Int32) (hf : fX1_leastAhead k0_row p1 = some res) : Ct l yX1_leastAhead wsX1_leastAhead rmX1_leastAhead G [.ref q0, .int p1] (wdX1_leastAhead G q0 q0_row k0_row) (wdX1_leastAhead G q0 q0_row k0_row) (some (.int res)) := by
  refine Ct.of (cc := cX1_leastAhead) (nL := 4) (ret := (some .int)) (by decide) rfl (Nat.le_of_ble_eq_true rfl) rfl ?_
  intro p e s m below meth c A ls C hP hD hl
  obtain ⟨hx, hb, hml, hown, hts, hr, hlocks, hA, hG⟩ := id C
  have hS : va_S A s.heap s.heap [] := va_S.rf
  unfold fX1_leastAhead at hf
  refine lv_bipush (v := (10 : Int32)) hx hb dX1_leastAhead_0 (by decide) ?_
  refine lv_istore_n (lv' := [(2, .int (10 : Int32)), (0, .ref q0), (1, .int p1)]) hx hb dX1_leastAhead_2 rfl hl (by decide) rfl (fun ls hl => ?_)
  refine lv_iconst (v := (1 : Int32)) hx hb dX1_leastAhead_3 (by decide) ?_
  refine lv_istore_n (lv' := [(3, .int (1 : Int32)), (2, .int (10 : Int32)), (0, .ref q0), (1, .int p1)]) hx hb dX1_leastAhead_4 rfl hl (by decide) rfl (fun ls hl => ?_)
  exact wX1_leastAhead_5 C q0 q0_row k0_row p1 res fu (10 : Int32) (1 : Int32) _ _ ls hf hP hD hS (lv_sub hl [2, 3, 1, 0] rfl)
abbrev wdX1_hasLeastGreatestMiddle (G : GX) (q0 : Nat) (q0_row : Nat) (k0_row : Nat → Int32) : va_W := [(q0, .inr (1, [.ref q0_row])), (q0_row, .inl (G.2.1, 10, .inl k0_row))]
abbrev rmX1_hasLeastGreatestMiddle : Room := { frames := 2, cells := 0, slots := 0, locals := 83 }
abbrev glX1_hasLeastGreatestMiddle (p : Program) (l : Launch) (e : Env) (s : State) (m : MethodId) (args : Array Value) (below : List Frame) (meth : Method) (c : Code) (G : GX) (A : Nat → Prop) (q0 : Nat) (q0_row : Nat) (k0_row : Nat → Int32) (res : Int32) (H : Heap) (locs : List Loc) (pc : Nat) (ls : Array Slot) (st : List Value) : Prop := W p l e rmX1_hasLeastGreatestMiddle s m args below meth c H locs 0 0 (MQ below (ctQ G A (wdX1_hasLeastGreatestMiddle G q0 q0_row k0_row) (some (.int res))) args s 0 0 A) (F0 m pc ls st)
set_option maxRecDepth 20000 in
theorem mX1_hasLeastGreatestMiddle_0 : Cond.fieldLink RX1 9 "SchubertDesk$Digits" "row" "[I" ∈ wsX1_hasLeastGreatestMiddle := by decide +kernel
set_option maxRecDepth 20000 in
theorem nX1_hasLeastGreatestMiddle_X1 : ∀ w ∈ u_ws RX1 TX1 1, w ∈ wsX1_hasLeastGreatestMiddle := by decide +kernel
set_option maxHeartbeats 4000000 in
set_option maxRecDepth 100000 in
theorem wX1_hasLeastGreatestMiddle_12 {p : Program} {l : Launch} {e : Env} {s : State} {m : MethodId} {args : Array Value} {below : List Frame} {meth : Method} {c : Code} {G : GX} {A : Nat → Prop} (C : Cx p s m args meth c cX1_hasLeastGreatestMiddle 3 (some .boolean) wsX1_hasLeastGreatestMiddle RX1 G A) (q0 : Nat) (q0_row : Nat) (k0_row : Nat → Int32) (res : Int32) (rec2 : Int32 → Option (Int32)) (hr2 : ∀ (x1 : Int32) (H : Heap) (locs : List Loc) (ls : Array Slot), rec2 x1 = some res → va_P G.1 vwCl (wdX1_hasLeastGreatestMiddle G q0 q0_row k0_row) H → va_D A (wdX1_hasLeastGreatestMiddle G q0 q0_row k0_row) → va_S A s.heap H locs → lv_has ls 3 [(0, .ref q0), (1, .int x1)] → glX1_hasLeastGreatestMiddle p l e s m args below meth c G A q0 q0_row k0_row res H locs 2 ls []) (n : Nat) : ∀ (x1 : Int32) (x2 : Int32) (H : Heap) (locs : List Loc) (ls : Array Slot), fX1_hasLeastGreatestMiddle_L12 k0_row rec2 n x1 x2 = some res → va_P G.1 vwCl (wdX1_hasLeastGreatestMiddle G q0 q0_row k0_row) H → va_D A (wdX1_hasLeastGreatestMiddle G q0 q0_row k0_row) → va_S A s.heap H locs → lv_has ls 3 [(0, .ref q0), (1, .int x1), (2, .int x2)] → glX1_hasLeastGreatestMiddle p l e s m args below meth c G A q0 q0_row k0_row res H locs 12 ls [] := by
  obtain ⟨hx, hb, hml, hown, hts, hr, hlocks, hA, hG⟩ := id C
  induction n with
  | zero => intro x1 x2 H locs ls hf hP hD hS hl; cases hf
  | succ n ih =>
    intro x1 x2 H locs ls hf hP hD hS hl
    simp only [fX1_hasLeastGreatestMiddle_L12] at hf
    refine lv_iload_n hx hb dX1_hasLeastGreatestMiddle_12 rfl (lv_at hl 2 rfl) ?_
    refine lv_bipush (v := (9 : Int32)) hx hb dX1_hasLeastGreatestMiddle_13 (by decide) ?_
    refine lv_icmp_gt (tgt := 55) hx hb dX1_hasLeastGreatestMiddle_15 (by decide) (fun hc => ?_) (fun hc => ?_)
    · have hf := if_t hc hf
      obtain ⟨y1, ey1⟩ : ∃ z : Int32, z = x1 + (1 : Int32) := ⟨_, rfl⟩
      have hf := nm_use ey1 hf
      refine lv_iinc (v := y1) (lv' := [(1, .int y1), (0, .ref q0), (2, .int x2)]) hx hb dX1_hasLeastGreatestMiddle_55 hl (k := 1) rfl (by rw [ey1]; rfl) (by decide) rfl (fun ls hl => ?_)
      refine lv_goto (tgt := 2) hx hb dX1_hasLeastGreatestMiddle_58 (by decide) ?_
      exact hr2 y1 _ _ ls hf hP hD hS (lv_sub hl [1, 0] rfl)
    · have hf := if_f hc hf
      refine lv_aload_n hx hb dX1_hasLeastGreatestMiddle_18 rfl (lv_at hl 0 rfl) ?_
      refine va_get (D := G.1) (ci := 1) (v := .ref q0_row) (C := RX1) (T := TX1) (N := 1) hx hb hts nX1_hasLeastGreatestMiddle_X1 hown hG.1 hP 0 rfl rfl 0 (by decide) (hts _ mX1_hasLeastGreatestMiddle_0) (fun _ h9 => h9) rfl dX1_hasLeastGreatestMiddle_19 ?_
      refine lv_iload_n hx hb dX1_hasLeastGreatestMiddle_22 rfl (lv_at hl 2 rfl) ?_
      obtain ⟨hin, hf⟩ := gI_use hf
      refine va_iald hx hb hG.1 hP 1 0 rfl rfl hin dX1_hasLeastGreatestMiddle_23 ?_
      refine lv_aload_n hx hb dX1_hasLeastGreatestMiddle_24 rfl (lv_at hl 0 rfl) ?_
      refine va_get (D := G.1) (ci := 1) (v := .ref q0_row) (C := RX1) (T := TX1) (N := 1) hx hb hts nX1_hasLeastGreatestMiddle_X1 hown hG.1 hP 0 rfl rfl 0 (by decide) (hts _ mX1_hasLeastGreatestMiddle_0) (fun _ h9 => h9) rfl dX1_hasLeastGreatestMiddle_25 ?_
      refine lv_iload_n hx hb dX1_hasLeastGreatestMiddle_28 rfl (lv_at hl 1 rfl) ?_
      obtain ⟨hin, hf⟩ := gI_use hf
      refine va_iald hx hb hG.1 hP 1 0 rfl rfl hin dX1_hasLeastGreatestMiddle_29 ?_
      refine lv_icmp_ge (tgt := 49) hx hb dX1_hasLeastGreatestMiddle_30 (by decide) (fun hc => ?_) (fun hc => ?_)
      · have hf := if_t hc hf
        obtain ⟨y4, ey4⟩ : ∃ z : Int32, z = x2 + (1 : Int32) := ⟨_, rfl⟩
        have hf := nm_use ey4 hf
        refine lv_iinc (v := y4) (lv' := [(2, .int y4), (0, .ref q0), (1, .int x1)]) hx hb dX1_hasLeastGreatestMiddle_49 hl (k := 2) rfl (by rw [ey4]; rfl) (by decide) rfl (fun ls hl => ?_)
        refine lv_goto (tgt := 12) hx hb dX1_hasLeastGreatestMiddle_52 (by decide) ?_
        exact ih x1 y4 _ _ ls hf hP hD hS (lv_sub hl [1, 2, 0] rfl)
      · have hf := if_f hc hf
        refine lv_aload_n hx hb dX1_hasLeastGreatestMiddle_33 rfl (lv_at hl 0 rfl) ?_
        refine lv_iload_n hx hb dX1_hasLeastGreatestMiddle_34 rfl (lv_at hl 1 rfl) ?_
        obtain ⟨r5, hr5, hf⟩ := bd_use hf
        refine cl_V (wn := (wdX1_hasLeastGreatestMiddle G q0 q0_row k0_row)) (st1 := [.int r5]) C hP hD hS (tX1_leastAhead l G q0 q0_row k0_row x1 r5 hr5) (cwV 1 hts gX1_hasLeastGreatestMiddle_X1_leastAhead rfl rfl rfl (by decide +kernel) ⟨Nat.le_of_ble_eq_true rfl, Nat.le_of_ble_eq_true rfl⟩) [0, 1] [] [0, 1] rfl rfl rfl rfl (by decide) rfl rfl (ci := 1) (q0 := 0) rfl rfl rfl rfl hl.1 rfl rfl (Nat.le_of_ble_eq_true rfl) dX1_hasLeastGreatestMiddle_35 (fun H locs hP hD hS => ?_)
        refine lv_aload_n hx hb dX1_hasLeastGreatestMiddle_38 rfl (lv_at hl 0 rfl) ?_
        refine va_get (D := G.1) (ci := 1) (v := .ref q0_row) (C := RX1) (T := TX1) (N := 1) hx hb hts nX1_hasLeastGreatestMiddle_X1 hown hG.1 hP 0 rfl rfl 0 (by decide) (hts _ mX1_hasLeastGreatestMiddle_0) (fun _ h9 => h9) rfl dX1_hasLeastGreatestMiddle_39 ?_
        refine lv_iload_n hx hb dX1_hasLeastGreatestMiddle_42 rfl (lv_at hl 2 rfl) ?_
        obtain ⟨hin, hf⟩ := gI_use hf
        refine va_iald hx hb hG.1 hP 1 0 rfl rfl hin dX1_hasLeastGreatestMiddle_43 ?_
        refine lv_icmp_ge (tgt := 49) hx hb dX1_hasLeastGreatestMiddle_44 (by decide) (fun hc => ?_) (fun hc => ?_)
        · have hf := if_t hc hf
          obtain ⟨y7, ey7⟩ : ∃ z : Int32, z = x2 + (1 : Int32) := ⟨_, rfl⟩
          have hf := nm_use ey7 hf
          refine lv_iinc (v := y7) (lv' := [(2, .int y7), (0, .ref q0), (1, .int x1)]) hx hb dX1_hasLeastGreatestMiddle_49 hl (k := 2) rfl (by rw [ey7]; rfl) (by decide) rfl (fun ls hl => ?_)
          refine lv_goto (tgt := 12) hx hb dX1_hasLeastGreatestMiddle_52 (by decide) ?_
          exact ih x1 y7 _ _ ls hf hP hD hS (lv_sub hl [1, 2, 0] rfl)
        · have hf := if_f hc hf
          refine lv_iconst (v := (1 : Int32)) hx hb dX1_hasLeastGreatestMiddle_47 (by decide) ?_
          cases hf
          exact rt_z C (Or.inr rfl) hP hD hS dX1_hasLeastGreatestMiddle_48
set_option maxHeartbeats 4000000 in
set_option maxRecDepth 100000 in
theorem wX1_hasLeastGreatestMiddle_2 {p : Program} {l : Launch} {e : Env} {s : State} {m : MethodId} {args : Array Value} {below : List Frame} {meth : Method} {c : Code} {G : GX} {A : Nat → Prop} (C : Cx p s m args meth c cX1_hasLeastGreatestMiddle 3 (some .boolean) wsX1_hasLeastGreatestMiddle RX1 G A) (q0 : Nat) (q0_row : Nat) (k0_row : Nat → Int32) (res : Int32) (n : Nat) : ∀ (x1 : Int32) (H : Heap) (locs : List Loc) (ls : Array Slot), fX1_hasLeastGreatestMiddle_L2 k0_row n x1 = some res → va_P G.1 vwCl (wdX1_hasLeastGreatestMiddle G q0 q0_row k0_row) H → va_D A (wdX1_hasLeastGreatestMiddle G q0 q0_row k0_row) → va_S A s.heap H locs → lv_has ls 3 [(0, .ref q0), (1, .int x1)] → glX1_hasLeastGreatestMiddle p l e s m args below meth c G A q0 q0_row k0_row res H locs 2 ls [] := by
  obtain ⟨hx, hb, hml, hown, hts, hr, hlocks, hA, hG⟩ := id C
  induction n with
  | zero => intro x1 H locs ls hf hP hD hS hl; cases hf
  | succ n ih =>
    intro x1 H locs ls hf hP hD hS hl
    simp only [fX1_hasLeastGreatestMiddle_L2] at hf
    refine lv_iload_n hx hb dX1_hasLeastGreatestMiddle_2 rfl (lv_at hl 1 rfl) ?_
    refine lv_bipush (v := (9 : Int32)) hx hb dX1_hasLeastGreatestMiddle_3 (by decide) ?_
    refine lv_icmp_ge (tgt := 61) hx hb dX1_hasLeastGreatestMiddle_5 (by decide) (fun hc => ?_) (fun hc => ?_)
    · have hf := if_t hc hf
      refine lv_iconst (v := (0 : Int32)) hx hb dX1_hasLeastGreatestMiddle_61 (by decide) ?_
      cases hf
      exact rt_z C (Or.inl rfl) hP hD hS dX1_hasLeastGreatestMiddle_62
    · have hf := if_f hc hf
      refine lv_iload_n hx hb dX1_hasLeastGreatestMiddle_8 rfl (lv_at hl 1 rfl) ?_
      refine lv_iconst (v := (1 : Int32)) hx hb dX1_hasLeastGreatestMiddle_9 (by decide) ?_
      refine lv_iadd hx hb dX1_hasLeastGreatestMiddle_10 ?_
      refine lv_topi (fun y8 ey8 => ?_)
      have hf := nm_use ey8 hf
      refine lv_istore_n (lv' := [(2, .int y8), (0, .ref q0), (1, .int x1)]) hx hb dX1_hasLeastGreatestMiddle_11 rfl hl (by decide) rfl (fun ls hl => ?_)
      exact wX1_hasLeastGreatestMiddle_12 C q0 q0_row k0_row res (fX1_hasLeastGreatestMiddle_L2 k0_row n) ih fu x1 y8 _ _ ls hf hP hD hS (lv_sub hl [1, 2, 0] rfl)
set_option maxHeartbeats 4000000 in
set_option maxRecDepth 100000 in
theorem tX1_hasLeastGreatestMiddle (l : Launch) (G : GX) (q0 : Nat) (q0_row : Nat) (k0_row : Nat → Int32) (res : Int32) (hf : fX1_hasLeastGreatestMiddle k0_row = some res) : Ct l yX1_hasLeastGreatestMiddle wsX1_hasLeastGreatestMiddle rmX1_hasLeastGreatestMiddle G [.ref q0] (wdX1_hasLeastGreatestMiddle G q0 q0_row k0_row) (wdX1_hasLeastGreatestMiddle G q0 q0_row k0_row) (some (.int res)) := by
  refine Ct.of (cc := cX1_hasLeastGreatestMiddle) (nL := 3) (ret := (some .boolean)) (by decide) rfl (Nat.le_of_ble_eq_true rfl) rfl ?_
  intro p e s m below meth c A ls C hP hD hl
  obtain ⟨hx, hb, hml, hown, hts, hr, hlocks, hA, hG⟩ := id C
  have hS : va_S A s.heap s.heap [] := va_S.rf
  unfold fX1_hasLeastGreatestMiddle at hf
  refine lv_iconst (v := (2 : Int32)) hx hb dX1_hasLeastGreatestMiddle_0 (by decide) ?_
  refine lv_istore_n (lv' := [(1, .int (2 : Int32)), (0, .ref q0)]) hx hb dX1_hasLeastGreatestMiddle_1 rfl hl (by decide) rfl (fun ls hl => ?_)
  exact wX1_hasLeastGreatestMiddle_2 C q0 q0_row k0_row res fu (2 : Int32) _ _ ls hf hP hD hS (lv_sub hl [1, 0] rfl)
abbrev wdX1_hasFallAhead (G : GX) (q0 : Nat) (q0_row : Nat) (k0_row : Nat → Int32) : va_W := [(q0, .inr (1, [.ref q0_row])), (q0_row, .inl (G.2.1, 10, .inl k0_row))]
abbrev rmX1_hasFallAhead : Room := { frames := 1, cells := 0, slots := 0, locals := 60 }
abbrev glX1_hasFallAhead (p : Program) (l : Launch) (e : Env) (s : State) (m : MethodId) (args : Array Value) (below : List Frame) (meth : Method) (c : Code) (G : GX) (A : Nat → Prop) (q0 : Nat) (q0_row : Nat) (k0_row : Nat → Int32) (res : Int32) (H : Heap) (locs : List Loc) (pc : Nat) (ls : Array Slot) (st : List Value) : Prop := W p l e rmX1_hasFallAhead s m args below meth c H locs 0 0 (MQ below (ctQ G A (wdX1_hasFallAhead G q0 q0_row k0_row) (some (.int res))) args s 0 0 A) (F0 m pc ls st)
set_option maxRecDepth 20000 in
theorem mX1_hasFallAhead_0 : Cond.methodLink RX1 69 Lib.Math.max.name ∈ wsX1_hasFallAhead := by decide +kernel
set_option maxRecDepth 20000 in
theorem mX1_hasFallAhead_1 : Cond.static Lib.Math.max.name ∈ wsX1_hasFallAhead := by decide +kernel
set_option maxRecDepth 20000 in
theorem mX1_hasFallAhead_2 : Cond.initialized "java/lang/Math" ∈ wsX1_hasFallAhead := by decide +kernel
set_option maxRecDepth 20000 in
theorem mX1_hasFallAhead_3 : Cond.code Lib.Math.max.name Lib.Math.max.code 2 (some .int) ∈ wsX1_hasFallAhead := by decide +kernel
set_option maxHeartbeats 4000000 in
set_option maxRecDepth 100000 in
theorem wX1_hasFallAhead_5 {p : Program} {l : Launch} {e : Env} {s : State} {m : MethodId} {args : Array Value} {below : List Frame} {meth : Method} {c : Code} {G : GX} {A : Nat → Prop} (C : Cx p s m args meth c cX1_hasFallAhead 6 (some .boolean) wsX1_hasFallAhead RX1 G A) (q0 : Nat) (q0_row : Nat) (k0_row : Nat → Int32) (p1 : Int32) (p2 : Int32) (res : Int32) (n : Nat) : ∀ (x3 : Int32) (x4 : Int32) (H : Heap) (locs : List Loc) (ls : Array Slot), fX1_hasFallAhead_L5 k0_row p1 p2 n x3 x4 = some res → va_P G.1 vwCl (wdX1_hasFallAhead G q0 q0_row k0_row) H → va_D A (wdX1_hasFallAhead G q0 q0_row k0_row) → va_S A s.heap H locs → lv_has ls 6 [(0, .ref q0), (1, .int p1), (2, .int p2), (3, .int x3), (4, .int x4)] → glX1_hasFallAhead p l e s m args below meth c G A q0 q0_row k0_row res H locs 5 ls [] := by
  obtain ⟨hx, hb, hml, hown, hts, hr, hlocks, hA, hG⟩ := id C
  induction n with
  | zero => intro x3 x4 H locs ls hf hP hD hS hl; cases hf
  | succ n ih =>
    intro x3 x4 H locs ls hf hP hD hS hl
    simp only [fX1_hasFallAhead_L5] at hf
    refine lv_iload hx hb dX1_hasFallAhead_5 (lv_at hl 4 rfl) ?_
    refine lv_iload_n hx hb dX1_hasFallAhead_7 rfl (lv_at hl 1 rfl) ?_
    refine lv_icmp_ge (tgt := 46) hx hb dX1_hasFallAhead_8 (by decide) (fun hc => ?_) (fun hc => ?_)
    · have hf := if_t hc hf
      refine lv_iconst (v := (0 : Int32)) hx hb dX1_hasFallAhead_46 (by decide) ?_
      cases hf
      exact rt_z C (Or.inl rfl) hP hD hS dX1_hasFallAhead_47
    · have hf := if_f hc hf
      refine lv_aload_n hx hb dX1_hasFallAhead_11 rfl (lv_at hl 0 rfl) ?_
      refine lv_iload hx hb dX1_hasFallAhead_12 (lv_at hl 4 rfl) ?_
      obtain ⟨r1, hr1, hf⟩ := bd_use hf
      refine cl_V (wn := (wdX1_hasFallAhead G q0 q0_row k0_row)) (st1 := [.int r1]) C hP hD hS (tX1_digit l G q0 q0_row k0_row x4 r1 hr1) (cwV 1 hts gX1_hasFallAhead_X1_digit rfl rfl rfl (by decide +kernel) ⟨Nat.le_of_ble_eq_true rfl, Nat.le_of_ble_eq_true rfl⟩) [0, 1] [] [0, 1] rfl rfl rfl rfl (by decide) rfl rfl (ci := 1) (q0 := 0) rfl rfl rfl rfl hl.1 rfl rfl (Nat.le_of_ble_eq_true rfl) dX1_hasFallAhead_14 (fun H locs hP hD hS => ?_)
      refine lv_istore (lv' := [(5, .int r1), (0, .ref q0), (1, .int p1), (2, .int p2), (3, .int x3), (4, .int x4)]) hx hb dX1_hasFallAhead_17 hl (by decide) rfl (fun ls hl => ?_)
      refine lv_iload hx hb dX1_hasFallAhead_19 (lv_at hl 0 rfl) ?_
      refine lv_iload_n hx hb dX1_hasFallAhead_21 rfl (lv_at hl 4 rfl) ?_
      refine lv_icmp_ge (tgt := 27) hx hb dX1_hasFallAhead_22 (by decide) (fun hc => ?_) (fun hc => ?_)
      · have hf := if_t hc hf
        refine lv_iload hx hb dX1_hasFallAhead_27 (lv_at hl 0 rfl) ?_
        refine lv_iload_n hx hb dX1_hasFallAhead_29 rfl (lv_at hl 3 rfl) ?_
        refine lv_icmp_ge (tgt := 40) hx hb dX1_hasFallAhead_30 (by decide) (fun hc => ?_) (fun hc => ?_)
        · have hf := if_t hc hf
          obtain ⟨y2, ey2⟩ : ∃ z : Int32, z = x4 + (1 : Int32) := ⟨_, rfl⟩
          have hf := nm_use ey2 hf
          refine lv_iinc (v := y2) (lv' := [(4, .int y2), (5, .int r1), (0, .ref q0), (1, .int p1), (2, .int p2), (3, .int x3)]) hx hb dX1_hasFallAhead_40 hl (k := 5) rfl (by rw [ey2]; rfl) (by decide) rfl (fun ls hl => ?_)
          refine lv_goto (tgt := 5) hx hb dX1_hasFallAhead_43 (by decide) ?_
          exact ih x3 y2 _ _ ls hf hP hD hS (lv_sub hl [2, 3, 4, 5, 0] rfl)
        · have hf := if_f hc hf
          refine lv_iload_n hx hb dX1_hasFallAhead_33 rfl (lv_at hl 4 rfl) ?_
          refine lv_iload hx hb dX1_hasFallAhead_34 (lv_at hl 0 rfl) ?_
          refine va_mmax hx hb (hml.trans hl.1.symm) hown (hts _ mX1_hasFallAhead_0) (hts _ mX1_hasFallAhead_1) (hts _ mX1_hasFallAhead_2) (hts _ mX1_hasFallAhead_3) (Nat.le_of_ble_eq_true rfl) (Nat.le_of_ble_eq_true rfl) (Nat.zero_le _) (Nat.zero_le _) dX1_hasFallAhead_36 ?_
          refine lv_topi (fun y3 ey3 => ?_)
          have hf := nm_use ey3 hf
          refine lv_istore_n (lv' := [(3, .int y3), (5, .int r1), (0, .ref q0), (1, .int p1), (2, .int p2), (4, .int x4)]) hx hb dX1_hasFallAhead_39 rfl hl (by decide) rfl (fun ls hl => ?_)
          obtain ⟨y4, ey4⟩ : ∃ z : Int32, z = x4 + (1 : Int32) := ⟨_, rfl⟩
          have hf := nm_use ey4 hf
          refine lv_iinc (v := y4) (lv' := [(4, .int y4), (3, .int y3), (5, .int r1), (0, .ref q0), (1, .int p1), (2, .int p2)]) hx hb dX1_hasFallAhead_40 hl (k := 5) rfl (by rw [ey4]; rfl) (by decide) rfl (fun ls hl => ?_)
          refine lv_goto (tgt := 5) hx hb dX1_hasFallAhead_43 (by decide) ?_
          exact ih y3 y4 _ _ ls hf hP hD hS (lv_sub hl [3, 4, 5, 1, 0] rfl)
      · have hf := if_f hc hf
        refine lv_iconst (v := (1 : Int32)) hx hb dX1_hasFallAhead_25 (by decide) ?_
        cases hf
        exact rt_z C (Or.inr rfl) hP hD hS dX1_hasFallAhead_26
set_option maxHeartbeats 4000000 in
set_option maxRecDepth 100000 in
theorem tX1_hasFallAhead (l : Launch) (G : GX) (q0 : Nat) (q0_row : Nat) (k0_row : Nat → Int32) (p1 : Int32) (p2 : Int32) (res : Int32) (hf : fX1_hasFallAhead k0_row p1 p2 = some res) : Ct l yX1_hasFallAhead wsX1_hasFallAhead rmX1_hasFallAhead G [.ref q0, .int p1, .int p2] (wdX1_hasFallAhead G q0 q0_row k0_row) (wdX1_hasFallAhead G q0 q0_row k0_row) (some (.int res)) := by
  refine Ct.of (cc := cX1_hasFallAhead) (nL := 6) (ret := (some .boolean)) (by decide) rfl (Nat.le_of_ble_eq_true rfl) rfl ?_
  intro p e s m below meth c A ls C hP hD hl
  obtain ⟨hx, hb, hml, hown, hts, hr, hlocks, hA, hG⟩ := id C
  have hS : va_S A s.heap s.heap [] := va_S.rf
  unfold fX1_hasFallAhead at hf
  refine lv_iconst (v := (0 : Int32)) hx hb dX1_hasFallAhead_0 (by decide) ?_
  refine lv_istore_n (lv' := [(3, .int (0 : Int32)), (0, .ref q0), (1, .int p1), (2, .int p2)]) hx hb dX1_hasFallAhead_1 rfl hl (by decide) rfl (fun ls hl => ?_)
  refine lv_iconst (v := (1 : Int32)) hx hb dX1_hasFallAhead_2 (by decide) ?_
  refine lv_istore (lv' := [(4, .int (1 : Int32)), (3, .int (0 : Int32)), (0, .ref q0), (1, .int p1), (2, .int p2)]) hx hb dX1_hasFallAhead_3 hl (by decide) rfl (fun ls hl => ?_)
  exact wX1_hasFallAhead_5 C q0 q0_row k0_row p1 p2 res fu (0 : Int32) (1 : Int32) _ _ ls hf hP hD hS (lv_sub hl [2, 3, 4, 1, 0] rfl)
abbrev wdX1_hasTwoOneFourThree (G : GX) (q0 : Nat) (q0_row : Nat) (k0_row : Nat → Int32) : va_W := [(q0, .inr (1, [.ref q0_row])), (q0_row, .inl (G.2.1, 10, .inl k0_row))]
abbrev rmX1_hasTwoOneFourThree : Room := { frames := 2, cells := 0, slots := 0, locals := 85 }
abbrev glX1_hasTwoOneFourThree (p : Program) (l : Launch) (e : Env) (s : State) (m : MethodId) (args : Array Value) (below : List Frame) (meth : Method) (c : Code) (G : GX) (A : Nat → Prop) (q0 : Nat) (q0_row : Nat) (k0_row : Nat → Int32) (res : Int32) (H : Heap) (locs : List Loc) (pc : Nat) (ls : Array Slot) (st : List Value) : Prop := W p l e rmX1_hasTwoOneFourThree s m args below meth c H locs 0 0 (MQ below (ctQ G A (wdX1_hasTwoOneFourThree G q0 q0_row k0_row) (some (.int res))) args s 0 0 A) (F0 m pc ls st)
set_option maxRecDepth 20000 in
theorem mX1_hasTwoOneFourThree_0 : Cond.fieldLink RX1 9 "SchubertDesk$Digits" "row" "[I" ∈ wsX1_hasTwoOneFourThree := by decide +kernel
set_option maxRecDepth 20000 in
theorem nX1_hasTwoOneFourThree_X1 : ∀ w ∈ u_ws RX1 TX1 1, w ∈ wsX1_hasTwoOneFourThree := by decide +kernel
set_option maxHeartbeats 4000000 in
set_option maxRecDepth 100000 in
theorem wX1_hasTwoOneFourThree_12 {p : Program} {l : Launch} {e : Env} {s : State} {m : MethodId} {args : Array Value} {below : List Frame} {meth : Method} {c : Code} {G : GX} {A : Nat → Prop} (C : Cx p s m args meth c cX1_hasTwoOneFourThree 3 (some .boolean) wsX1_hasTwoOneFourThree RX1 G A) (q0 : Nat) (q0_row : Nat) (k0_row : Nat → Int32) (res : Int32) (rec2 : Int32 → Option (Int32)) (hr2 : ∀ (x1 : Int32) (H : Heap) (locs : List Loc) (ls : Array Slot), rec2 x1 = some res → va_P G.1 vwCl (wdX1_hasTwoOneFourThree G q0 q0_row k0_row) H → va_D A (wdX1_hasTwoOneFourThree G q0 q0_row k0_row) → va_S A s.heap H locs → lv_has ls 3 [(0, .ref q0), (1, .int x1)] → glX1_hasTwoOneFourThree p l e s m args below meth c G A q0 q0_row k0_row res H locs 2 ls []) (n : Nat) : ∀ (x1 : Int32) (x2 : Int32) (H : Heap) (locs : List Loc) (ls : Array Slot), fX1_hasTwoOneFourThree_L12 k0_row rec2 n x1 x2 = some res → va_P G.1 vwCl (wdX1_hasTwoOneFourThree G q0 q0_row k0_row) H → va_D A (wdX1_hasTwoOneFourThree G q0 q0_row k0_row) → va_S A s.heap H locs → lv_has ls 3 [(0, .ref q0), (1, .int x1), (2, .int x2)] → glX1_hasTwoOneFourThree p l e s m args below meth c G A q0 q0_row k0_row res H locs 12 ls [] := by
  obtain ⟨hx, hb, hml, hown, hts, hr, hlocks, hA, hG⟩ := id C
  induction n with
  | zero => intro x1 x2 H locs ls hf hP hD hS hl; cases hf
  | succ n ih =>
    intro x1 x2 H locs ls hf hP hD hS hl
    simp only [fX1_hasTwoOneFourThree_L12] at hf
    refine lv_iload_n hx hb dX1_hasTwoOneFourThree_12 rfl (lv_at hl 2 rfl) ?_
    refine lv_bipush (v := (9 : Int32)) hx hb dX1_hasTwoOneFourThree_13 (by decide) ?_
    refine lv_icmp_gt (tgt := 55) hx hb dX1_hasTwoOneFourThree_15 (by decide) (fun hc => ?_) (fun hc => ?_)
    · have hf := if_t hc hf
      obtain ⟨y1, ey1⟩ : ∃ z : Int32, z = x1 + (1 : Int32) := ⟨_, rfl⟩
      have hf := nm_use ey1 hf
      refine lv_iinc (v := y1) (lv' := [(1, .int y1), (0, .ref q0), (2, .int x2)]) hx hb dX1_hasTwoOneFourThree_55 hl (k := 1) rfl (by rw [ey1]; rfl) (by decide) rfl (fun ls hl => ?_)
      refine lv_goto (tgt := 2) hx hb dX1_hasTwoOneFourThree_58 (by decide) ?_
      exact hr2 y1 _ _ ls hf hP hD hS (lv_sub hl [1, 0] rfl)
    · have hf := if_f hc hf
      refine lv_aload_n hx hb dX1_hasTwoOneFourThree_18 rfl (lv_at hl 0 rfl) ?_
      refine va_get (D := G.1) (ci := 1) (v := .ref q0_row) (C := RX1) (T := TX1) (N := 1) hx hb hts nX1_hasTwoOneFourThree_X1 hown hG.1 hP 0 rfl rfl 0 (by decide) (hts _ mX1_hasTwoOneFourThree_0) (fun _ h9 => h9) rfl dX1_hasTwoOneFourThree_19 ?_
      refine lv_iload_n hx hb dX1_hasTwoOneFourThree_22 rfl (lv_at hl 2 rfl) ?_
      obtain ⟨hin, hf⟩ := gI_use hf
      refine va_iald hx hb hG.1 hP 1 0 rfl rfl hin dX1_hasTwoOneFourThree_23 ?_
      refine lv_aload_n hx hb dX1_hasTwoOneFourThree_24 rfl (lv_at hl 0 rfl) ?_
      refine va_get (D := G.1) (ci := 1) (v := .ref q0_row) (C := RX1) (T := TX1) (N := 1) hx hb hts nX1_hasTwoOneFourThree_X1 hown hG.1 hP 0 rfl rfl 0 (by decide) (hts _ mX1_hasTwoOneFourThree_0) (fun _ h9 => h9) rfl dX1_hasTwoOneFourThree_25 ?_
      refine lv_iload_n hx hb dX1_hasTwoOneFourThree_28 rfl (lv_at hl 1 rfl) ?_
      obtain ⟨hin, hf⟩ := gI_use hf
      refine va_iald hx hb hG.1 hP 1 0 rfl rfl hin dX1_hasTwoOneFourThree_29 ?_
      refine lv_icmp_ge (tgt := 49) hx hb dX1_hasTwoOneFourThree_30 (by decide) (fun hc => ?_) (fun hc => ?_)
      · have hf := if_t hc hf
        obtain ⟨y4, ey4⟩ : ∃ z : Int32, z = x2 + (1 : Int32) := ⟨_, rfl⟩
        have hf := nm_use ey4 hf
        refine lv_iinc (v := y4) (lv' := [(2, .int y4), (0, .ref q0), (1, .int x1)]) hx hb dX1_hasTwoOneFourThree_49 hl (k := 2) rfl (by rw [ey4]; rfl) (by decide) rfl (fun ls hl => ?_)
        refine lv_goto (tgt := 12) hx hb dX1_hasTwoOneFourThree_52 (by decide) ?_
        exact ih x1 y4 _ _ ls hf hP hD hS (lv_sub hl [1, 2, 0] rfl)
      · have hf := if_f hc hf
        refine lv_aload_n hx hb dX1_hasTwoOneFourThree_33 rfl (lv_at hl 0 rfl) ?_
        refine lv_iload_n hx hb dX1_hasTwoOneFourThree_34 rfl (lv_at hl 1 rfl) ?_
        refine lv_aload_n hx hb dX1_hasTwoOneFourThree_35 rfl (lv_at hl 0 rfl) ?_
        refine va_get (D := G.1) (ci := 1) (v := .ref q0_row) (C := RX1) (T := TX1) (N := 1) hx hb hts nX1_hasTwoOneFourThree_X1 hown hG.1 hP 0 rfl rfl 0 (by decide) (hts _ mX1_hasTwoOneFourThree_0) (fun _ h9 => h9) rfl dX1_hasTwoOneFourThree_36 ?_
        refine lv_iload_n hx hb dX1_hasTwoOneFourThree_39 rfl (lv_at hl 2 rfl) ?_
        obtain ⟨hin, hf⟩ := gI_use hf
        refine va_iald hx hb hG.1 hP 1 0 rfl rfl hin dX1_hasTwoOneFourThree_40 ?_
        obtain ⟨r6, hr6, hf⟩ := bd_use hf
        refine cl_V (wn := (wdX1_hasTwoOneFourThree G q0 q0_row k0_row)) (st1 := [.int r6]) C hP hD hS (tX1_hasFallAhead l G q0 q0_row k0_row x1 (k0_row (x2).toNatClampNeg) r6 hr6) (cwV 2 hts gX1_hasTwoOneFourThree_X1_hasFallAhead rfl rfl rfl (by decide +kernel) ⟨Nat.le_of_ble_eq_true rfl, Nat.le_of_ble_eq_true rfl⟩) [0, 1] [] [0, 1] rfl rfl rfl rfl (by decide) rfl rfl (ci := 1) (q0 := 0) rfl rfl rfl rfl hl.1 rfl rfl (Nat.le_of_ble_eq_true rfl) dX1_hasTwoOneFourThree_41 (fun H locs hP hD hS => ?_)
        refine lv_if_eq (tgt := 49) hx hb dX1_hasTwoOneFourThree_44 (by decide) (fun hc => ?_) (fun hc => ?_)
        · have hf := if_t hc hf
          obtain ⟨y7, ey7⟩ : ∃ z : Int32, z = x2 + (1 : Int32) := ⟨_, rfl⟩
          have hf := nm_use ey7 hf
          refine lv_iinc (v := y7) (lv' := [(2, .int y7), (0, .ref q0), (1, .int x1)]) hx hb dX1_hasTwoOneFourThree_49 hl (k := 2) rfl (by rw [ey7]; rfl) (by decide) rfl (fun ls hl => ?_)
          refine lv_goto (tgt := 12) hx hb dX1_hasTwoOneFourThree_52 (by decide) ?_
          exact ih x1 y7 _ _ ls hf hP hD hS (lv_sub hl [1, 2, 0] rfl)
        · have hf := if_f hc hf
          refine lv_iconst (v := (1 : Int32)) hx hb dX1_hasTwoOneFourThree_47 (by decide) ?_
          cases hf
          exact rt_z C (Or.inr rfl) hP hD hS dX1_hasTwoOneFourThree_48
set_option maxHeartbeats 4000000 in
set_option maxRecDepth 100000 in
theorem wX1_hasTwoOneFourThree_2 {p : Program} {l : Launch} {e : Env} {s : State} {m : MethodId} {args : Array Value} {below : List Frame} {meth : Method} {c : Code} {G : GX} {A : Nat → Prop} (C : Cx p s m args meth c cX1_hasTwoOneFourThree 3 (some .boolean) wsX1_hasTwoOneFourThree RX1 G A) (q0 : Nat) (q0_row : Nat) (k0_row : Nat → Int32) (res : Int32) (n : Nat) : ∀ (x1 : Int32) (H : Heap) (locs : List Loc) (ls : Array Slot), fX1_hasTwoOneFourThree_L2 k0_row n x1 = some res → va_P G.1 vwCl (wdX1_hasTwoOneFourThree G q0 q0_row k0_row) H → va_D A (wdX1_hasTwoOneFourThree G q0 q0_row k0_row) → va_S A s.heap H locs → lv_has ls 3 [(0, .ref q0), (1, .int x1)] → glX1_hasTwoOneFourThree p l e s m args below meth c G A q0 q0_row k0_row res H locs 2 ls [] := by
  obtain ⟨hx, hb, hml, hown, hts, hr, hlocks, hA, hG⟩ := id C
  induction n with
  | zero => intro x1 H locs ls hf hP hD hS hl; cases hf
  | succ n ih =>
    intro x1 H locs ls hf hP hD hS hl
    simp only [fX1_hasTwoOneFourThree_L2] at hf
    refine lv_iload_n hx hb dX1_hasTwoOneFourThree_2 rfl (lv_at hl 1 rfl) ?_
    refine lv_bipush (v := (9 : Int32)) hx hb dX1_hasTwoOneFourThree_3 (by decide) ?_
    refine lv_icmp_ge (tgt := 61) hx hb dX1_hasTwoOneFourThree_5 (by decide) (fun hc => ?_) (fun hc => ?_)
    · have hf := if_t hc hf
      refine lv_iconst (v := (0 : Int32)) hx hb dX1_hasTwoOneFourThree_61 (by decide) ?_
      cases hf
      exact rt_z C (Or.inl rfl) hP hD hS dX1_hasTwoOneFourThree_62
    · have hf := if_f hc hf
      refine lv_iload_n hx hb dX1_hasTwoOneFourThree_8 rfl (lv_at hl 1 rfl) ?_
      refine lv_iconst (v := (1 : Int32)) hx hb dX1_hasTwoOneFourThree_9 (by decide) ?_
      refine lv_iadd hx hb dX1_hasTwoOneFourThree_10 ?_
      refine lv_topi (fun y8 ey8 => ?_)
      have hf := nm_use ey8 hf
      refine lv_istore_n (lv' := [(2, .int y8), (0, .ref q0), (1, .int x1)]) hx hb dX1_hasTwoOneFourThree_11 rfl hl (by decide) rfl (fun ls hl => ?_)
      exact wX1_hasTwoOneFourThree_12 C q0 q0_row k0_row res (fX1_hasTwoOneFourThree_L2 k0_row n) ih fu x1 y8 _ _ ls hf hP hD hS (lv_sub hl [1, 2, 0] rfl)
set_option maxHeartbeats 4000000 in
set_option maxRecDepth 100000 in
theorem tX1_hasTwoOneFourThree (l : Launch) (G : GX) (q0 : Nat) (q0_row : Nat) (k0_row : Nat → Int32) (res : Int32) (hf : fX1_hasTwoOneFourThree k0_row = some res) : Ct l yX1_hasTwoOneFourThree wsX1_hasTwoOneFourThree rmX1_hasTwoOneFourThree G [.ref q0] (wdX1_hasTwoOneFourThree G q0 q0_row k0_row) (wdX1_hasTwoOneFourThree G q0 q0_row k0_row) (some (.int res)) := by
  refine Ct.of (cc := cX1_hasTwoOneFourThree) (nL := 3) (ret := (some .boolean)) (by decide) rfl (Nat.le_of_ble_eq_true rfl) rfl ?_
  intro p e s m below meth c A ls C hP hD hl
  obtain ⟨hx, hb, hml, hown, hts, hr, hlocks, hA, hG⟩ := id C
  have hS : va_S A s.heap s.heap [] := va_S.rf
  unfold fX1_hasTwoOneFourThree at hf
  refine lv_iconst (v := (3 : Int32)) hx hb dX1_hasTwoOneFourThree_0 (by decide) ?_
  refine lv_istore_n (lv' := [(1, .int (3 : Int32)), (0, .ref q0)]) hx hb dX1_hasTwoOneFourThree_1 rfl hl (by decide) rfl (fun ls hl => ?_)
  exact wX1_hasTwoOneFourThree_2 C q0 q0_row k0_row res fu (3 : Int32) _ _ ls hf hP hD hS (lv_sub hl [1, 0] rfl)
abbrev wdX2_at (G : GX) (q0 : Nat) (q0_cell : Nat) (q0_top : Nat) (k0_cell : Nat → Int64) : va_W := [(q0, .inr (2, [.ref q0_cell, .ref q0_top])), (q0_cell, .inl (G.2.2.1, 3024, .inr (.inl k0_cell)))]
abbrev rmX2_at : Room := { frames := 0, cells := 0, slots := 0, locals := 0 }
abbrev glX2_at (p : Program) (l : Launch) (e : Env) (s : State) (m : MethodId) (args : Array Value) (below : List Frame) (meth : Method) (c : Code) (G : GX) (A : Nat → Prop) (q0 : Nat) (q0_cell : Nat) (q0_top : Nat) (k0_cell : Nat → Int64) (res : Int64) (H : Heap) (locs : List Loc) (pc : Nat) (ls : Array Slot) (st : List Value) : Prop := W p l e rmX2_at s m args below meth c H locs 0 0 (MQ below (ctQ G A (wdX2_at G q0 q0_cell q0_top k0_cell) (some (.long res))) args s 0 0 A) (F0 m pc ls st)
set_option maxRecDepth 20000 in
theorem mX2_at_0 : Cond.fieldLink RX2 9 "SchubertDesk$Grid" "cell" "[J" ∈ wsX2_at := by decide +kernel
set_option maxRecDepth 20000 in
theorem nX2_at_X2 : ∀ w ∈ u_ws RX2 TX2 2, w ∈ wsX2_at := by decide +kernel
set_option maxHeartbeats 4000000 in
set_option maxRecDepth 100000 in
theorem tX2_at (l : Launch) (G : GX) (q0 : Nat) (q0_cell : Nat) (q0_top : Nat) (k0_cell : Nat → Int64) (p1 : Int32) (res : Int64) (hf : fX2_at k0_cell p1 = some res) : Ct l yX2_at wsX2_at rmX2_at G [.ref q0, .int p1] (wdX2_at G q0 q0_cell q0_top k0_cell) (wdX2_at G q0 q0_cell q0_top k0_cell) (some (.long res)) := by
  refine Ct.of (cc := cX2_at) (nL := 2) (ret := (some .long)) (by decide) rfl (Nat.le_of_ble_eq_true rfl) rfl ?_
  intro p e s m below meth c A ls C hP hD hl
  obtain ⟨hx, hb, hml, hown, hts, hr, hlocks, hA, hG⟩ := id C
  have hS : va_S A s.heap s.heap [] := va_S.rf
  unfold fX2_at at hf
  refine lv_iload_n hx hb dX2_at_0 rfl (lv_at hl 1 rfl) ?_
  refine lv_if_lt (tgt := 20) hx hb dX2_at_1 (by decide) (fun hc => ?_) (fun hc => ?_)
  · have hf := if_t hc hf
    refine lv_lconst (v := (0 : Int64)) hx hb dX2_at_20 (by decide) ?_
    cases hf
    exact rt_l C hP hD hS dX2_at_21
  · have hf := if_f hc hf
    refine lv_iload_n hx hb dX2_at_4 rfl (lv_at hl 1 rfl) ?_
    refine lv_sipush (v := (3024 : Int32)) hx hb dX2_at_5 (by decide) ?_
    refine lv_icmp_ge (tgt := 20) hx hb dX2_at_8 (by decide) (fun hc => ?_) (fun hc => ?_)
    · have hf := if_t hc hf
      refine lv_lconst (v := (0 : Int64)) hx hb dX2_at_20 (by decide) ?_
      cases hf
      exact rt_l C hP hD hS dX2_at_21
    · have hf := if_f hc hf
      refine lv_aload_n hx hb dX2_at_11 rfl (lv_at hl 0 rfl) ?_
      refine va_get (D := G.1) (ci := 2) (v := .ref q0_cell) (C := RX2) (T := TX2) (N := 2) hx hb hts nX2_at_X2 hown hG.1 hP 0 rfl rfl 0 (by decide) (hts _ mX2_at_0) (fun _ h9 => h9) rfl dX2_at_12 ?_
      refine lv_iload_n hx hb dX2_at_15 rfl (lv_at hl 1 rfl) ?_
      obtain ⟨hin, hf⟩ := gJ_use hf
      refine va_lald hx hb hG.1 hP 1 1 rfl rfl hin dX2_at_16 ?_
      refine lv_goto (tgt := 21) hx hb dX2_at_17 (by decide) ?_
      cases hf
      exact rt_l C hP hD hS dX2_at_21
abbrev wdJ7_fill_d0a16 (G : GX) (nA : Nat) (q0 : Nat) (k0 : Nat → Int64) : va_W := [(q0, .inl (G.2.2.1, nA, .inr (.inl k0)))]
abbrev rmJ7_fill_d0a16 : Room := { frames := 0, cells := 0, slots := 0, locals := 0 }
abbrev glJ7_fill_d0a16 (p : Program) (l : Launch) (e : Env) (s : State) (m : MethodId) (args : Array Value) (below : List Frame) (meth : Method) (c : Code) (G : GX) (A : Nat → Prop) (nA : Nat) (q0 : Nat) (res : (Nat → Int64)) (H : Heap) (locs : List Loc) (pc : Nat) (ls : Array Slot) (st : List Value) : Prop := W p l e rmJ7_fill_d0a16 s m args below meth c H locs 0 0 (MQ below (ctQ G A (wdJ7_fill_d0a16 G nA q0 res) none) args s 0 0 A) (F0 m pc ls st)
set_option maxHeartbeats 4000000 in
set_option maxRecDepth 100000 in
theorem wJ7_fill_d0a16_6 {p : Program} {l : Launch} {e : Env} {s : State} {m : MethodId} {args : Array Value} {below : List Frame} {meth : Method} {c : Code} {G : GX} {A : Nat → Prop} (C : Cx p s m args meth c cJ7_fill_d0a16 5 none wsJ7_fill_d0a16 RJ7 G A) (nA : Nat) (q0 : Nat) (p1 : Int64) (res : (Nat → Int64)) (n : Nat) : ∀ (k0 : Nat → Int64) (x3 : Int32) (x4 : Int32) (H : Heap) (locs : List Loc) (ls : Array Slot), fJ7_fill_d0a16_L6 nA p1 n k0 x3 x4 = some res → va_P G.1 vwCl (wdJ7_fill_d0a16 G nA q0 k0) H → va_D A (wdJ7_fill_d0a16 G nA q0 k0) → va_S A s.heap H locs → lv_has ls 5 [(0, .ref q0), (1, .long p1), (3, .int x3), (4, .int x4)] → glJ7_fill_d0a16 p l e s m args below meth c G A nA q0 res H locs 6 ls [] := by
  obtain ⟨hx, hb, hml, hown, hts, hr, hlocks, hA, hG⟩ := id C
  induction n with
  | zero => intro k0 x3 x4 H locs ls hf hP hD hS hl; cases hf
  | succ n ih =>
    intro k0 x3 x4 H locs ls hf hP hD hS hl
    simp only [fJ7_fill_d0a16_L6] at hf
    refine lv_iload_n hx hb dJ7_fill_d0a16_6 rfl (lv_at hl 2 rfl) ?_
    refine lv_iload hx hb dJ7_fill_d0a16_7 (lv_at hl 3 rfl) ?_
    refine lv_icmp_ge (tgt := 22) hx hb dJ7_fill_d0a16_9 (by decide) (fun hc => ?_) (fun hc => ?_)
    · have hf := if_t hc hf
      cases hf
      exact rt_v C hP hD hS dJ7_fill_d0a16_22
    · have hf := if_f hc hf
      refine lv_aload_n hx hb dJ7_fill_d0a16_12 rfl (lv_at hl 0 rfl) ?_
      refine lv_iload_n hx hb dJ7_fill_d0a16_13 rfl (lv_at hl 2 rfl) ?_
      refine lv_lload_n hx hb dJ7_fill_d0a16_14 rfl (lv_at hl 1 rfl) ?_
      obtain ⟨hin, hf⟩ := pJ_use hf
      refine va_last hx hb hG.1 hP hD hS 0 1 rfl rfl hin dJ7_fill_d0a16_15 (fun H locs hP hD hS => ?_)
      have hP : va_P G.1 vwCl (wdJ7_fill_d0a16 G nA q0 (vp_updL k0 (x3).toNatClampNeg p1)) H := hP
      have hD : va_D A (wdJ7_fill_d0a16 G nA q0 (vp_updL k0 (x3).toNatClampNeg p1)) := hD
      obtain ⟨y2, ey2⟩ : ∃ z : Int32, z = x3 + (1 : Int32) := ⟨_, rfl⟩
      have hf := nm_use ey2 hf
      refine lv_iinc (v := y2) (lv' := [(3, .int y2), (0, .ref q0), (1, .long p1), (4, .int x4)]) hx hb dJ7_fill_d0a16_16 hl (k := 2) rfl (by rw [ey2]; rfl) (by decide) rfl (fun ls hl => ?_)
      refine lv_goto (tgt := 6) hx hb dJ7_fill_d0a16_19 (by decide) ?_
      exact ih (vp_updL k0 (x3).toNatClampNeg p1) y2 x4 _ _ ls hf hP hD hS (lv_sub hl [1, 2, 0, 3] rfl)
set_option maxHeartbeats 4000000 in
set_option maxRecDepth 100000 in
theorem tJ7_fill_d0a16 (l : Launch) (G : GX) (nA : Nat) (q0 : Nat) (k0 : Nat → Int64) (p1 : Int64) (res : (Nat → Int64)) (hf : fJ7_fill_d0a16 nA k0 p1 = some res) : Ct l yJ7_fill_d0a16 wsJ7_fill_d0a16 rmJ7_fill_d0a16 G [.ref q0, .long p1] (wdJ7_fill_d0a16 G nA q0 k0) (wdJ7_fill_d0a16 G nA q0 res) none := by
  refine Ct.of (cc := cJ7_fill_d0a16) (nL := 5) (ret := none) (by decide) rfl (Nat.le_of_ble_eq_true rfl) rfl ?_
  intro p e s m below meth c A ls C hP hD hl
  obtain ⟨hx, hb, hml, hown, hts, hr, hlocks, hA, hG⟩ := id C
  have hS : va_S A s.heap s.heap [] := va_S.rf
  unfold fJ7_fill_d0a16 at hf
  refine lv_iconst (v := (0 : Int32)) hx hb dJ7_fill_d0a16_0 (by decide) ?_
  refine lv_istore_n (lv' := [(3, .int (0 : Int32)), (0, .ref q0), (1, .long p1)]) hx hb dJ7_fill_d0a16_1 rfl hl (by decide) rfl (fun ls hl => ?_)
  refine lv_aload_n hx hb dJ7_fill_d0a16_2 rfl (lv_at hl 1 rfl) ?_
  refine va_alen (v := (Int32.ofNat nA)) hx hb hG.1 hP 0 1 rfl rfl rfl dJ7_fill_d0a16_3 ?_
  refine lv_topi (fun y3 ey3 => ?_)
  have hf := nm_use ey3 hf
  refine lv_istore (lv' := [(4, .int y3), (3, .int (0 : Int32)), (0, .ref q0), (1, .long p1)]) hx hb dJ7_fill_d0a16_4 hl (by decide) rfl (fun ls hl => ?_)
  exact wJ7_fill_d0a16_6 C nA q0 p1 res fu k0 (0 : Int32) y3 _ _ ls hf hP hD hS (lv_sub hl [2, 3, 1, 0] rfl)
abbrev wdX2_clear (G : GX) (q0 : Nat) (q0_cell : Nat) (q0_top : Nat) (k0_cell : Nat → Int64) : va_W := [(q0, .inr (2, [.ref q0_cell, .ref q0_top])), (q0_cell, .inl (G.2.2.1, 3024, .inr (.inl k0_cell)))]
abbrev rmX2_clear : Room := { frames := 1, cells := 0, slots := 0, locals := 24 }
abbrev glX2_clear (p : Program) (l : Launch) (e : Env) (s : State) (m : MethodId) (args : Array Value) (below : List Frame) (meth : Method) (c : Code) (G : GX) (A : Nat → Prop) (q0 : Nat) (q0_cell : Nat) (q0_top : Nat) (res : (Nat → Int64)) (H : Heap) (locs : List Loc) (pc : Nat) (ls : Array Slot) (st : List Value) : Prop := W p l e rmX2_clear s m args below meth c H locs 0 0 (MQ below (ctQ G A (wdX2_clear G q0 q0_cell q0_top res) none) args s 0 0 A) (F0 m pc ls st)
set_option maxRecDepth 20000 in
theorem mX2_clear_0 : Cond.fieldLink RX2 9 "SchubertDesk$Grid" "cell" "[J" ∈ wsX2_clear := by decide +kernel
set_option maxRecDepth 20000 in
theorem nX2_clear_X2 : ∀ w ∈ u_ws RX2 TX2 2, w ∈ wsX2_clear := by decide +kernel
set_option maxHeartbeats 4000000 in
set_option maxRecDepth 100000 in
theorem tX2_clear (l : Launch) (G : GX) (q0 : Nat) (q0_cell : Nat) (q0_top : Nat) (k0_cell : Nat → Int64) (res : (Nat → Int64)) (hf : fX2_clear k0_cell = some res) : Ct l yX2_clear wsX2_clear rmX2_clear G [.ref q0] (wdX2_clear G q0 q0_cell q0_top k0_cell) (wdX2_clear G q0 q0_cell q0_top res) none := by
  refine Ct.of (cc := cX2_clear) (nL := 1) (ret := none) (by decide) rfl (Nat.le_of_ble_eq_true rfl) rfl ?_
  intro p e s m below meth c A ls C hP hD hl
  obtain ⟨hx, hb, hml, hown, hts, hr, hlocks, hA, hG⟩ := id C
  have hS : va_S A s.heap s.heap [] := va_S.rf
  unfold fX2_clear at hf
  refine lv_aload_n hx hb dX2_clear_0 rfl (lv_at hl 0 rfl) ?_
  refine va_get (D := G.1) (ci := 2) (v := .ref q0_cell) (C := RX2) (T := TX2) (N := 2) hx hb hts nX2_clear_X2 hown hG.1 hP 0 rfl rfl 0 (by decide) (hts _ mX2_clear_0) (fun _ h9 => h9) rfl dX2_clear_1 ?_
  refine lv_lconst (v := (0 : Int64)) hx hb dX2_clear_4 (by decide) ?_
  obtain ⟨r1, hr1, hf⟩ := bd_use hf
  refine cl_S (wn := (wdX2_clear G q0 q0_cell q0_top r1)) (st1 := []) C hP hD hS (tJ7_fill_d0a16 l G 3024 q0_cell k0_cell (0 : Int64) r1 hr1) (va_cwS 2 hts gX2_clear_J7_fill_d0a16 rfl rfl rfl (by decide +kernel) ⟨Nat.le_of_ble_eq_true rfl, Nat.le_of_ble_eq_true rfl⟩) [1] [0] [0, 1] rfl rfl rfl rfl (by decide) rfl rfl rfl hl.1 rfl rfl (Nat.le_of_ble_eq_true rfl) dX2_clear_5 (fun H locs hP hD hS => ?_)
  cases hf
  exact rt_v C hP hD hS dX2_clear_8
abbrev wdX2_copy (G : GX) (q0 : Nat) (q0_cell : Nat) (q0_top : Nat) (q1 : Nat) (q1_cell : Nat) (q1_top : Nat) (k0_cell : Nat → Int64) (k1_cell : Nat → Int64) : va_W := [(q0, .inr (2, [.ref q0_cell, .ref q0_top])), (q0_cell, .inl (G.2.2.1, 3024, .inr (.inl k0_cell))), (q1, .inr (2, [.ref q1_cell, .ref q1_top])), (q1_cell, .inl (G.2.2.1, 3024, .inr (.inl k1_cell)))]
abbrev rmX2_copy : Room := { frames := 1, cells := 0, slots := 0, locals := 60 }
abbrev glX2_copy (p : Program) (l : Launch) (e : Env) (s : State) (m : MethodId) (args : Array Value) (below : List Frame) (meth : Method) (c : Code) (G : GX) (A : Nat → Prop) (q0 : Nat) (q0_cell : Nat) (q0_top : Nat) (q1 : Nat) (q1_cell : Nat) (q1_top : Nat) (k1_cell : Nat → Int64) (res : (Nat → Int64)) (H : Heap) (locs : List Loc) (pc : Nat) (ls : Array Slot) (st : List Value) : Prop := W p l e rmX2_copy s m args below meth c H locs 0 0 (MQ below (ctQ G A (wdX2_copy G q0 q0_cell q0_top q1 q1_cell q1_top res k1_cell) none) args s 0 0 A) (F0 m pc ls st)
set_option maxRecDepth 20000 in
theorem mX2_copy_0 : Cond.fieldLink RX2 9 "SchubertDesk$Grid" "cell" "[J" ∈ wsX2_copy := by decide +kernel
set_option maxRecDepth 20000 in
theorem mX2_copy_1 : Cond.methodLink RX2 25 arraycopyName ∈ wsX2_copy := by decide +kernel
set_option maxRecDepth 20000 in
theorem mX2_copy_2 : Cond.native arraycopyName ∈ wsX2_copy := by decide +kernel
set_option maxRecDepth 20000 in
theorem mX2_copy_3 : Cond.static arraycopyName ∈ wsX2_copy := by decide +kernel
set_option maxRecDepth 20000 in
theorem mX2_copy_4 : Cond.initialized "java/lang/System" ∈ wsX2_copy := by decide +kernel
set_option maxRecDepth 20000 in
theorem nX2_copy_X2 : ∀ w ∈ u_ws RX2 TX2 2, w ∈ wsX2_copy := by decide +kernel
set_option maxHeartbeats 4000000 in
set_option maxRecDepth 100000 in
theorem tX2_copy (l : Launch) (G : GX) (q0 : Nat) (q0_cell : Nat) (q0_top : Nat) (q1 : Nat) (q1_cell : Nat) (q1_top : Nat) (k0_cell : Nat → Int64) (k1_cell : Nat → Int64) (res : (Nat → Int64)) (hf : fX2_copy k0_cell k1_cell = some res) : Ct l yX2_copy wsX2_copy rmX2_copy G [.ref q0, .ref q1] (wdX2_copy G q0 q0_cell q0_top q1 q1_cell q1_top k0_cell k1_cell) (wdX2_copy G q0 q0_cell q0_top q1 q1_cell q1_top res k1_cell) none := by
  refine Ct.of (cc := cX2_copy) (nL := 2) (ret := none) (by decide) rfl (Nat.le_of_ble_eq_true rfl) rfl ?_
  intro p e s m below meth c A ls C hP hD hl
  obtain ⟨hx, hb, hml, hown, hts, hr, hlocks, hA, hG⟩ := id C
  have hS : va_S A s.heap s.heap [] := va_S.rf
  unfold fX2_copy at hf
  refine lv_aload_n hx hb dX2_copy_0 rfl (lv_at hl 1 rfl) ?_
  refine va_get (D := G.1) (ci := 2) (v := .ref q1_cell) (C := RX2) (T := TX2) (N := 2) hx hb hts nX2_copy_X2 hown hG.1 hP 2 rfl rfl 0 (by decide) (hts _ mX2_copy_0) (fun _ h9 => h9) rfl dX2_copy_1 ?_
  refine lv_iconst (v := (0 : Int32)) hx hb dX2_copy_4 (by decide) ?_
  refine lv_aload_n hx hb dX2_copy_5 rfl (lv_at hl 0 rfl) ?_
  refine va_get (D := G.1) (ci := 2) (v := .ref q0_cell) (C := RX2) (T := TX2) (N := 2) hx hb hts nX2_copy_X2 hown hG.1 hP 0 rfl rfl 0 (by decide) (hts _ mX2_copy_0) (fun _ h9 => h9) rfl dX2_copy_6 ?_
  refine lv_iconst (v := (0 : Int32)) hx hb dX2_copy_9 (by decide) ?_
  refine lv_sipush (v := (3024 : Int32)) hx hb dX2_copy_10 (by decide) ?_
  obtain ⟨⟨hc1, hc2, hc3, hc4, hc5⟩, hf⟩ := cY_use hf
  refine va_copyl hx hb (hml.trans hl.1.symm) hown (hts _ mX2_copy_1) (hts _ mX2_copy_2) (hts _ mX2_copy_3) (hts _ mX2_copy_4) hG.1 hP hD hS 3 1 1 1 rfl rfl rfl rfl rfl hc1 hc2 hc3 hc4 hc5 (fun _ _ => rfl) (Nat.le_of_ble_eq_true rfl) (by decide) dX2_copy_13 (fun H locs hP hD hS => ?_)
  have hP : va_P G.1 vwCl (wdX2_copy G q0 q0_cell q0_top q1 q1_cell q1_top (va_cpy k1_cell k0_cell ((0 : Int32)).toNatClampNeg ((0 : Int32)).toNatClampNeg ((3024 : Int32)).toNatClampNeg) k1_cell) H := hP
  have hD : va_D A (wdX2_copy G q0 q0_cell q0_top q1 q1_cell q1_top (va_cpy k1_cell k0_cell ((0 : Int32)).toNatClampNeg ((0 : Int32)).toNatClampNeg ((3024 : Int32)).toNatClampNeg) k1_cell) := hD
  cases hf
  exact rt_v C hP hD hS dX2_copy_16
