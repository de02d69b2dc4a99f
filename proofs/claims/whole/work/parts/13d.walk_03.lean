abbrev wdX2_filled (G : GX) (q0 : Nat) (q0_cell : Nat) (q0_top : Nat) (k0_cell : Nat → Int64) : va_W := [(q0, .inr (2, [.ref q0_cell, .ref q0_top])), (q0_cell, .inl (G.2.2.1, 3024, .inr (.inl k0_cell)))]
abbrev rmX2_filled : Room := { frames := 0, cells := 0, slots := 0, locals := 0 }
abbrev glX2_filled (p : Program) (l : Launch) (e : Env) (s : State) (m : MethodId) (args : Array Value) (below : List Frame) (meth : Method) (c : Code) (G : GX) (A : Nat → Prop) (q0 : Nat) (q0_cell : Nat) (q0_top : Nat) (k0_cell : Nat → Int64) (res : Int32) (H : Heap) (locs : List Loc) (pc : Nat) (ls : Array Slot) (st : List Value) : Prop := W p l e rmX2_filled s m args below meth c H locs 0 0 (MQ below (ctQ G A (wdX2_filled G q0 q0_cell q0_top k0_cell) (some (.int res))) args s 0 0 A) (F0 m pc ls st)
set_option maxRecDepth 20000 in
theorem mX2_filled_0 : Cond.fieldLink RX2 9 "SchubertDesk$Grid" "cell" "[J" ∈ wsX2_filled := by decide +kernel
set_option maxRecDepth 20000 in
theorem nX2_filled_X2 : ∀ w ∈ u_ws RX2 TX2 2, w ∈ wsX2_filled := by decide +kernel
set_option maxHeartbeats 4000000 in
set_option maxRecDepth 100000 in
theorem wX2_filled_4 {p : Program} {l : Launch} {e : Env} {s : State} {m : MethodId} {args : Array Value} {below : List Frame} {meth : Method} {c : Code} {G : GX} {A : Nat → Prop} (C : Cx p s m args meth c cX2_filled 3 (some .int) wsX2_filled RX2 G A) (q0 : Nat) (q0_cell : Nat) (q0_top : Nat) (k0_cell : Nat → Int64) (res : Int32) (n : Nat) : ∀ (x1 : Int32) (x2 : Int32) (H : Heap) (locs : List Loc) (ls : Array Slot), fX2_filled_L4 k0_cell n x1 x2 = some res → va_P G.1 vwCl (wdX2_filled G q0 q0_cell q0_top k0_cell) H → va_D A (wdX2_filled G q0 q0_cell q0_top k0_cell) → va_S A s.heap H locs → lv_has ls 3 [(0, .ref q0), (1, .int x1), (2, .int x2)] → glX2_filled p l e s m args below meth c G A q0 q0_cell q0_top k0_cell res H locs 4 ls [] := by
  obtain ⟨hx, hb, hml, hown, hts, hr, hlocks, hA, hG⟩ := id C
  induction n with
  | zero => intro x1 x2 H locs ls hf hP hD hS hl; cases hf
  | succ n ih =>
    intro x1 x2 H locs ls hf hP hD hS hl
    simp only [fX2_filled_L4] at hf
    refine lv_iload_n hx hb dX2_filled_4 rfl (lv_at hl 2 rfl) ?_
    refine lv_sipush (v := (3024 : Int32)) hx hb dX2_filled_5 (by decide) ?_
    refine lv_icmp_ge (tgt := 31) hx hb dX2_filled_8 (by decide) (fun hc => ?_) (fun hc => ?_)
    · have hf := if_t hc hf
      refine lv_iload_n hx hb dX2_filled_31 rfl (lv_at hl 1 rfl) ?_
      cases hf
      exact rt_i C hP hD hS dX2_filled_32
    · have hf := if_f hc hf
      refine lv_aload_n hx hb dX2_filled_11 rfl (lv_at hl 0 rfl) ?_
      refine va_get (D := G.1) (ci := 2) (v := .ref q0_cell) (C := RX2) (T := TX2) (N := 2) hx hb hts nX2_filled_X2 hown hG.1 hP 0 rfl rfl 0 (by decide) (hts _ mX2_filled_0) (fun _ h9 => h9) rfl dX2_filled_12 ?_
      refine lv_iload_n hx hb dX2_filled_15 rfl (lv_at hl 2 rfl) ?_
      obtain ⟨hin, hf⟩ := gJ_use hf
      refine va_lald hx hb hG.1 hP 1 1 rfl rfl hin dX2_filled_16 ?_
      refine lv_lconst (v := (0 : Int64)) hx hb dX2_filled_17 (by decide) ?_
      refine W.lcmp hx hb dX2_filled_18 ?_
      refine lv_if_eq (tgt := 25) hx hb dX2_filled_19 (by decide) (fun hc => ?_) (fun hc => ?_)
      · have hf := if_t hc hf
        obtain ⟨y2, ey2⟩ : ∃ z : Int32, z = x2 + (1 : Int32) := ⟨_, rfl⟩
        have hf := nm_use ey2 hf
        refine lv_iinc (v := y2) (lv' := [(2, .int y2), (0, .ref q0), (1, .int x1)]) hx hb dX2_filled_25 hl (k := 2) rfl (by rw [ey2]; rfl) (by decide) rfl (fun ls hl => ?_)
        refine lv_goto (tgt := 4) hx hb dX2_filled_28 (by decide) ?_
        exact ih x1 y2 _ _ ls hf hP hD hS (lv_sub hl [1, 2, 0] rfl)
      · have hf := if_f hc hf
        obtain ⟨y3, ey3⟩ : ∃ z : Int32, z = x1 + (1 : Int32) := ⟨_, rfl⟩
        have hf := nm_use ey3 hf
        refine lv_iinc (v := y3) (lv' := [(1, .int y3), (0, .ref q0), (2, .int x2)]) hx hb dX2_filled_22 hl (k := 1) rfl (by rw [ey3]; rfl) (by decide) rfl (fun ls hl => ?_)
        obtain ⟨y4, ey4⟩ : ∃ z : Int32, z = x2 + (1 : Int32) := ⟨_, rfl⟩
        have hf := nm_use ey4 hf
        refine lv_iinc (v := y4) (lv' := [(2, .int y4), (1, .int y3), (0, .ref q0)]) hx hb dX2_filled_25 hl (k := 2) rfl (by rw [ey4]; rfl) (by decide) rfl (fun ls hl => ?_)
        refine lv_goto (tgt := 4) hx hb dX2_filled_28 (by decide) ?_
        exact ih y3 y4 _ _ ls hf hP hD hS (lv_sub hl [2, 1, 0] rfl)
set_option maxHeartbeats 4000000 in
set_option maxRecDepth 100000 in
theorem tX2_filled (l : Launch) (G : GX) (q0 : Nat) (q0_cell : Nat) (q0_top : Nat) (k0_cell : Nat → Int64) (res : Int32) (hf : fX2_filled k0_cell = some res) : Ct l yX2_filled wsX2_filled rmX2_filled G [.ref q0] (wdX2_filled G q0 q0_cell q0_top k0_cell) (wdX2_filled G q0 q0_cell q0_top k0_cell) (some (.int res)) := by
  refine Ct.of (cc := cX2_filled) (nL := 3) (ret := (some .int)) (by decide) rfl (Nat.le_of_ble_eq_true rfl) rfl ?_
  intro p e s m below meth c A ls C hP hD hl
  obtain ⟨hx, hb, hml, hown, hts, hr, hlocks, hA, hG⟩ := id C
  have hS : va_S A s.heap s.heap [] := va_S.rf
  unfold fX2_filled at hf
  refine lv_iconst (v := (0 : Int32)) hx hb dX2_filled_0 (by decide) ?_
  refine lv_istore_n (lv' := [(1, .int (0 : Int32)), (0, .ref q0)]) hx hb dX2_filled_1 rfl hl (by decide) rfl (fun ls hl => ?_)
  refine lv_iconst (v := (0 : Int32)) hx hb dX2_filled_2 (by decide) ?_
  refine lv_istore_n (lv' := [(2, .int (0 : Int32)), (1, .int (0 : Int32)), (0, .ref q0)]) hx hb dX2_filled_3 rfl hl (by decide) rfl (fun ls hl => ?_)
  exact wX2_filled_4 C q0 q0_cell q0_top k0_cell res fu (0 : Int32) (0 : Int32) _ _ ls hf hP hD hS (lv_sub hl [2, 1, 0] rfl)
abbrev wdX2_isWithinLimit (G : GX) (q0 : Nat) (q0_cell : Nat) (q0_top : Nat) (k0_cell : Nat → Int64) : va_W := [(q0, .inr (2, [.ref q0_cell, .ref q0_top])), (q0_cell, .inl (G.2.2.1, 3024, .inr (.inl k0_cell)))]
abbrev rmX2_isWithinLimit : Room := { frames := 0, cells := 0, slots := 0, locals := 0 }
abbrev glX2_isWithinLimit (p : Program) (l : Launch) (e : Env) (s : State) (m : MethodId) (args : Array Value) (below : List Frame) (meth : Method) (c : Code) (G : GX) (A : Nat → Prop) (q0 : Nat) (q0_cell : Nat) (q0_top : Nat) (k0_cell : Nat → Int64) (res : Int32) (H : Heap) (locs : List Loc) (pc : Nat) (ls : Array Slot) (st : List Value) : Prop := W p l e rmX2_isWithinLimit s m args below meth c H locs 0 0 (MQ below (ctQ G A (wdX2_isWithinLimit G q0 q0_cell q0_top k0_cell) (some (.int res))) args s 0 0 A) (F0 m pc ls st)
set_option maxRecDepth 20000 in
theorem mX2_isWithinLimit_0 : Cond.fieldLink RX2 9 "SchubertDesk$Grid" "cell" "[J" ∈ wsX2_isWithinLimit := by decide +kernel
set_option maxRecDepth 20000 in
theorem mX2_isWithinLimit_1 : Cond.constantLong RX2 31 (1000000000) ∈ wsX2_isWithinLimit := by decide +kernel
set_option maxRecDepth 20000 in
theorem mX2_isWithinLimit_2 : Cond.constantLong RX2 33 (-1000000000) ∈ wsX2_isWithinLimit := by decide +kernel
set_option maxRecDepth 20000 in
theorem nX2_isWithinLimit_X2 : ∀ w ∈ u_ws RX2 TX2 2, w ∈ wsX2_isWithinLimit := by decide +kernel
set_option maxHeartbeats 4000000 in
set_option maxRecDepth 100000 in
theorem wX2_isWithinLimit_2 {p : Program} {l : Launch} {e : Env} {s : State} {m : MethodId} {args : Array Value} {below : List Frame} {meth : Method} {c : Code} {G : GX} {A : Nat → Prop} (C : Cx p s m args meth c cX2_isWithinLimit 2 (some .boolean) wsX2_isWithinLimit RX2 G A) (q0 : Nat) (q0_cell : Nat) (q0_top : Nat) (k0_cell : Nat → Int64) (res : Int32) (n : Nat) : ∀ (x1 : Int32) (H : Heap) (locs : List Loc) (ls : Array Slot), fX2_isWithinLimit_L2 k0_cell n x1 = some res → va_P G.1 vwCl (wdX2_isWithinLimit G q0 q0_cell q0_top k0_cell) H → va_D A (wdX2_isWithinLimit G q0 q0_cell q0_top k0_cell) → va_S A s.heap H locs → lv_has ls 2 [(0, .ref q0), (1, .int x1)] → glX2_isWithinLimit p l e s m args below meth c G A q0 q0_cell q0_top k0_cell res H locs 2 ls [] := by
  obtain ⟨hx, hb, hml, hown, hts, hr, hlocks, hA, hG⟩ := id C
  induction n with
  | zero => intro x1 H locs ls hf hP hD hS hl; cases hf
  | succ n ih =>
    intro x1 H locs ls hf hP hD hS hl
    simp only [fX2_isWithinLimit_L2] at hf
    refine lv_iload_n hx hb dX2_isWithinLimit_2 rfl (lv_at hl 1 rfl) ?_
    refine lv_sipush (v := (3024 : Int32)) hx hb dX2_isWithinLimit_3 (by decide) ?_
    refine lv_icmp_ge (tgt := 43) hx hb dX2_isWithinLimit_6 (by decide) (fun hc => ?_) (fun hc => ?_)
    · have hf := if_t hc hf
      refine lv_iconst (v := (1 : Int32)) hx hb dX2_isWithinLimit_43 (by decide) ?_
      cases hf
      exact rt_z C (Or.inr rfl) hP hD hS dX2_isWithinLimit_44
    · have hf := if_f hc hf
      refine lv_aload_n hx hb dX2_isWithinLimit_9 rfl (lv_at hl 0 rfl) ?_
      refine va_get (D := G.1) (ci := 2) (v := .ref q0_cell) (C := RX2) (T := TX2) (N := 2) hx hb hts nX2_isWithinLimit_X2 hown hG.1 hP 0 rfl rfl 0 (by decide) (hts _ mX2_isWithinLimit_0) (fun _ h9 => h9) rfl dX2_isWithinLimit_10 ?_
      refine lv_iload_n hx hb dX2_isWithinLimit_13 rfl (lv_at hl 1 rfl) ?_
      obtain ⟨hin, hf⟩ := gJ_use hf
      refine va_lald hx hb hG.1 hP 1 1 rfl rfl hin dX2_isWithinLimit_14 ?_
      refine lv_ldc2 (v := (1000000000 : Int64)) hx hb hown (hts _ mX2_isWithinLimit_1) dX2_isWithinLimit_15 ?_
      refine W.lcmp hx hb dX2_isWithinLimit_18 ?_
      refine lv_if_gt (tgt := 35) hx hb dX2_isWithinLimit_19 (by decide) (fun hc => ?_) (fun hc => ?_)
      · have hf := if_t hc hf
        refine lv_iconst (v := (0 : Int32)) hx hb dX2_isWithinLimit_35 (by decide) ?_
        cases hf
        exact rt_z C (Or.inl rfl) hP hD hS dX2_isWithinLimit_36
      · have hf := if_f hc hf
        refine lv_aload_n hx hb dX2_isWithinLimit_22 rfl (lv_at hl 0 rfl) ?_
        refine va_get (D := G.1) (ci := 2) (v := .ref q0_cell) (C := RX2) (T := TX2) (N := 2) hx hb hts nX2_isWithinLimit_X2 hown hG.1 hP 0 rfl rfl 0 (by decide) (hts _ mX2_isWithinLimit_0) (fun _ h9 => h9) rfl dX2_isWithinLimit_23 ?_
        refine lv_iload_n hx hb dX2_isWithinLimit_26 rfl (lv_at hl 1 rfl) ?_
        obtain ⟨hin, hf⟩ := gJ_use hf
        refine va_lald hx hb hG.1 hP 1 1 rfl rfl hin dX2_isWithinLimit_27 ?_
        refine lv_ldc2 (v := (-1000000000 : Int64)) hx hb hown (hts _ mX2_isWithinLimit_2) dX2_isWithinLimit_28 ?_
        refine W.lcmp hx hb dX2_isWithinLimit_31 ?_
        refine lv_if_ge (tgt := 37) hx hb dX2_isWithinLimit_32 (by decide) (fun hc => ?_) (fun hc => ?_)
        · have hf := if_t hc hf
          obtain ⟨y3, ey3⟩ : ∃ z : Int32, z = x1 + (1 : Int32) := ⟨_, rfl⟩
          have hf := nm_use ey3 hf
          refine lv_iinc (v := y3) (lv' := [(1, .int y3), (0, .ref q0)]) hx hb dX2_isWithinLimit_37 hl (k := 1) rfl (by rw [ey3]; rfl) (by decide) rfl (fun ls hl => ?_)
          refine lv_goto (tgt := 2) hx hb dX2_isWithinLimit_40 (by decide) ?_
          exact ih y3 _ _ ls hf hP hD hS (lv_sub hl [1, 0] rfl)
        · have hf := if_f hc hf
          refine lv_iconst (v := (0 : Int32)) hx hb dX2_isWithinLimit_35 (by decide) ?_
          cases hf
          exact rt_z C (Or.inl rfl) hP hD hS dX2_isWithinLimit_36
set_option maxHeartbeats 4000000 in
set_option maxRecDepth 100000 in
theorem tX2_isWithinLimit (l : Launch) (G : GX) (q0 : Nat) (q0_cell : Nat) (q0_top : Nat) (k0_cell : Nat → Int64) (res : Int32) (hf : fX2_isWithinLimit k0_cell = some res) : Ct l yX2_isWithinLimit wsX2_isWithinLimit rmX2_isWithinLimit G [.ref q0] (wdX2_isWithinLimit G q0 q0_cell q0_top k0_cell) (wdX2_isWithinLimit G q0 q0_cell q0_top k0_cell) (some (.int res)) := by
  refine Ct.of (cc := cX2_isWithinLimit) (nL := 2) (ret := (some .boolean)) (by decide) rfl (Nat.le_of_ble_eq_true rfl) rfl ?_
  intro p e s m below meth c A ls C hP hD hl
  obtain ⟨hx, hb, hml, hown, hts, hr, hlocks, hA, hG⟩ := id C
  have hS : va_S A s.heap s.heap [] := va_S.rf
  unfold fX2_isWithinLimit at hf
  refine lv_iconst (v := (0 : Int32)) hx hb dX2_isWithinLimit_0 (by decide) ?_
  refine lv_istore_n (lv' := [(1, .int (0 : Int32)), (0, .ref q0)]) hx hb dX2_isWithinLimit_1 rfl hl (by decide) rfl (fun ls hl => ?_)
  exact wX2_isWithinLimit_2 C q0 q0_cell q0_top k0_cell res fu (0 : Int32) _ _ ls hf hP hD hS (lv_sub hl [1, 0] rfl)
abbrev wdX2_addTimes (G : GX) (q0 : Nat) (q0_cell : Nat) (q0_top : Nat) (q3 : Nat) (q3_cell : Nat) (q3_top : Nat) (k0_cell : Nat → Int64) (k3_cell : Nat → Int64) : va_W := [(q0, .inr (2, [.ref q0_cell, .ref q0_top])), (q0_cell, .inl (G.2.2.1, 3024, .inr (.inl k0_cell))), (q3, .inr (2, [.ref q3_cell, .ref q3_top])), (q3_cell, .inl (G.2.2.1, 3024, .inr (.inl k3_cell)))]
abbrev rmX2_addTimes : Room := { frames := 0, cells := 0, slots := 0, locals := 0 }
abbrev glX2_addTimes (p : Program) (l : Launch) (e : Env) (s : State) (m : MethodId) (args : Array Value) (below : List Frame) (meth : Method) (c : Code) (G : GX) (A : Nat → Prop) (q0 : Nat) (q0_cell : Nat) (q0_top : Nat) (q3 : Nat) (q3_cell : Nat) (q3_top : Nat) (k3_cell : Nat → Int64) (res : (Nat → Int64)) (H : Heap) (locs : List Loc) (pc : Nat) (ls : Array Slot) (st : List Value) : Prop := W p l e rmX2_addTimes s m args below meth c H locs 0 0 (MQ below (ctQ G A (wdX2_addTimes G q0 q0_cell q0_top q3 q3_cell q3_top res k3_cell) none) args s 0 0 A) (F0 m pc ls st)
set_option maxRecDepth 20000 in
theorem mX2_addTimes_0 : Cond.fieldLink RX2 9 "SchubertDesk$Grid" "cell" "[J" ∈ wsX2_addTimes := by decide +kernel
set_option maxRecDepth 20000 in
theorem nX2_addTimes_X2 : ∀ w ∈ u_ws RX2 TX2 2, w ∈ wsX2_addTimes := by decide +kernel
set_option maxHeartbeats 4000000 in
set_option maxRecDepth 100000 in
theorem wX2_addTimes_3 {p : Program} {l : Launch} {e : Env} {s : State} {m : MethodId} {args : Array Value} {below : List Frame} {meth : Method} {c : Code} {G : GX} {A : Nat → Prop} (C : Cx p s m args meth c cX2_addTimes 6 none wsX2_addTimes RX2 G A) (q0 : Nat) (q0_cell : Nat) (q0_top : Nat) (q3 : Nat) (q3_cell : Nat) (q3_top : Nat) (k3_cell : Nat → Int64) (p1 : Int64) (p4 : Int32) (res : (Nat → Int64)) (n : Nat) : ∀ (k0_cell : Nat → Int64) (x5 : Int32) (H : Heap) (locs : List Loc) (ls : Array Slot), fX2_addTimes_L3 k3_cell p1 p4 n k0_cell x5 = some res → va_P G.1 vwCl (wdX2_addTimes G q0 q0_cell q0_top q3 q3_cell q3_top k0_cell k3_cell) H → va_D A (wdX2_addTimes G q0 q0_cell q0_top q3 q3_cell q3_top k0_cell k3_cell) → va_S A s.heap H locs → lv_has ls 6 [(0, .ref q0), (1, .long p1), (3, .ref q3), (4, .int p4), (5, .int x5)] → glX2_addTimes p l e s m args below meth c G A q0 q0_cell q0_top q3 q3_cell q3_top k3_cell res H locs 3 ls [] := by
  obtain ⟨hx, hb, hml, hown, hts, hr, hlocks, hA, hG⟩ := id C
  induction n with
  | zero => intro k0_cell x5 H locs ls hf hP hD hS hl; cases hf
  | succ n ih =>
    intro k0_cell x5 H locs ls hf hP hD hS hl
    simp only [fX2_addTimes_L3] at hf
    refine lv_iload hx hb dX2_addTimes_3 (lv_at hl 4 rfl) ?_
    refine lv_iload hx hb dX2_addTimes_5 (lv_at hl 3 rfl) ?_
    refine lv_icmp_ge (tgt := 43) hx hb dX2_addTimes_7 (by decide) (fun hc => ?_) (fun hc => ?_)
    · have hf := if_t hc hf
      cases hf
      exact rt_v C hP hD hS dX2_addTimes_43
    · have hf := if_f hc hf
      refine lv_iload hx hb dX2_addTimes_10 (lv_at hl 4 rfl) ?_
      refine lv_sipush (v := (3024 : Int32)) hx hb dX2_addTimes_12 (by decide) ?_
      refine lv_icmp_ge (tgt := 43) hx hb dX2_addTimes_15 (by decide) (fun hc => ?_) (fun hc => ?_)
      · have hf := if_t hc hf
        cases hf
        exact rt_v C hP hD hS dX2_addTimes_43
      · have hf := if_f hc hf
        refine lv_aload_n hx hb dX2_addTimes_18 rfl (lv_at hl 0 rfl) ?_
        refine va_get (D := G.1) (ci := 2) (v := .ref q0_cell) (C := RX2) (T := TX2) (N := 2) hx hb hts nX2_addTimes_X2 hown hG.1 hP 0 rfl rfl 0 (by decide) (hts _ mX2_addTimes_0) (fun _ h9 => h9) rfl dX2_addTimes_19 ?_
        refine lv_iload hx hb dX2_addTimes_22 (lv_at hl 4 rfl) ?_
        refine lv_dup2_11 hx hb dX2_addTimes_24 rfl rfl ?_
        obtain ⟨hin, hf⟩ := gJ_use hf
        refine va_lald hx hb hG.1 hP 1 1 rfl rfl hin dX2_addTimes_25 ?_
        refine lv_lload_n hx hb dX2_addTimes_26 rfl (lv_at hl 1 rfl) ?_
        refine lv_aload_n hx hb dX2_addTimes_27 rfl (lv_at hl 2 rfl) ?_
        refine va_get (D := G.1) (ci := 2) (v := .ref q3_cell) (C := RX2) (T := TX2) (N := 2) hx hb hts nX2_addTimes_X2 hown hG.1 hP 2 rfl rfl 0 (by decide) (hts _ mX2_addTimes_0) (fun _ h9 => h9) rfl dX2_addTimes_28 ?_
        refine lv_iload hx hb dX2_addTimes_31 (lv_at hl 4 rfl) ?_
        obtain ⟨hin, hf⟩ := gJ_use hf
        refine va_lald hx hb hG.1 hP 3 1 rfl rfl hin dX2_addTimes_33 ?_
        refine lv_lmul hx hb dX2_addTimes_34 ?_
        refine lv_ladd hx hb dX2_addTimes_35 ?_
        obtain ⟨hin, hf⟩ := pJ_use hf
        refine va_last hx hb hG.1 hP hD hS 1 1 rfl rfl hin dX2_addTimes_36 (fun H locs hP hD hS => ?_)
        have hP : va_P G.1 vwCl (wdX2_addTimes G q0 q0_cell q0_top q3 q3_cell q3_top (vp_updL k0_cell (x5).toNatClampNeg ((k0_cell (x5).toNatClampNeg) + (p1 * (k3_cell (x5).toNatClampNeg)))) k3_cell) H := hP
        have hD : va_D A (wdX2_addTimes G q0 q0_cell q0_top q3 q3_cell q3_top (vp_updL k0_cell (x5).toNatClampNeg ((k0_cell (x5).toNatClampNeg) + (p1 * (k3_cell (x5).toNatClampNeg)))) k3_cell) := hD
        obtain ⟨y4, ey4⟩ : ∃ z : Int32, z = x5 + (1 : Int32) := ⟨_, rfl⟩
        have hf := nm_use ey4 hf
        refine lv_iinc (v := y4) (lv' := [(5, .int y4), (0, .ref q0), (1, .long p1), (3, .ref q3), (4, .int p4)]) hx hb dX2_addTimes_37 hl (k := 4) rfl (by rw [ey4]; rfl) (by decide) rfl (fun ls hl => ?_)
        refine lv_goto (tgt := 3) hx hb dX2_addTimes_40 (by decide) ?_
        exact ih (vp_updL k0_cell (x5).toNatClampNeg ((k0_cell (x5).toNatClampNeg) + (p1 * (k3_cell (x5).toNatClampNeg)))) y4 _ _ ls hf hP hD hS (lv_sub hl [1, 2, 3, 4, 0] rfl)
set_option maxHeartbeats 4000000 in
set_option maxRecDepth 100000 in
theorem tX2_addTimes (l : Launch) (G : GX) (q0 : Nat) (q0_cell : Nat) (q0_top : Nat) (q3 : Nat) (q3_cell : Nat) (q3_top : Nat) (k0_cell : Nat → Int64) (k3_cell : Nat → Int64) (p1 : Int64) (p4 : Int32) (res : (Nat → Int64)) (hf : fX2_addTimes k0_cell k3_cell p1 p4 = some res) : Ct l yX2_addTimes wsX2_addTimes rmX2_addTimes G [.ref q0, .long p1, .ref q3, .int p4] (wdX2_addTimes G q0 q0_cell q0_top q3 q3_cell q3_top k0_cell k3_cell) (wdX2_addTimes G q0 q0_cell q0_top q3 q3_cell q3_top res k3_cell) none := by
  refine Ct.of (cc := cX2_addTimes) (nL := 6) (ret := none) (by decide) rfl (Nat.le_of_ble_eq_true rfl) rfl ?_
  intro p e s m below meth c A ls C hP hD hl
  obtain ⟨hx, hb, hml, hown, hts, hr, hlocks, hA, hG⟩ := id C
  have hS : va_S A s.heap s.heap [] := va_S.rf
  unfold fX2_addTimes at hf
  refine lv_iconst (v := (0 : Int32)) hx hb dX2_addTimes_0 (by decide) ?_
  refine lv_istore (lv' := [(5, .int (0 : Int32)), (0, .ref q0), (1, .long p1), (3, .ref q3), (4, .int p4)]) hx hb dX2_addTimes_1 hl (by decide) rfl (fun ls hl => ?_)
  exact wX2_addTimes_3 C q0 q0_cell q0_top q3 q3_cell q3_top k3_cell p1 p4 res fu k0_cell (0 : Int32) _ _ ls hf hP hD hS (lv_sub hl [1, 2, 3, 4, 0] rfl)
abbrev wdX2_becomeMonomial (G : GX) (q0 : Nat) (q0_cell : Nat) (q0_top : Nat) (k0_cell : Nat → Int64) (k0_top : Nat → Int32) : va_W := [(q0, .inr (2, [.ref q0_cell, .ref q0_top])), (q0_cell, .inl (G.2.2.1, 3024, .inr (.inl k0_cell))), (q0_top, .inl (G.2.1, 5, .inl k0_top))]
abbrev rmX2_becomeMonomial : Room := { frames := 2, cells := 0, slots := 0, locals := 44 }
abbrev glX2_becomeMonomial (p : Program) (l : Launch) (e : Env) (s : State) (m : MethodId) (args : Array Value) (below : List Frame) (meth : Method) (c : Code) (G : GX) (A : Nat → Prop) (q0 : Nat) (q0_cell : Nat) (q0_top : Nat) (res : (Nat → Int64) × (Nat → Int32)) (H : Heap) (locs : List Loc) (pc : Nat) (ls : Array Slot) (st : List Value) : Prop := W p l e rmX2_becomeMonomial s m args below meth c H locs 0 0 (MQ below (ctQ G A (wdX2_becomeMonomial G q0 q0_cell q0_top res.1 res.2) none) args s 0 0 A) (F0 m pc ls st)
set_option maxRecDepth 20000 in
theorem mX2_becomeMonomial_0 : Cond.fieldLink RX2 15 "SchubertDesk$Grid" "top" "[I" ∈ wsX2_becomeMonomial := by decide +kernel
set_option maxRecDepth 20000 in
theorem mX2_becomeMonomial_1 : Cond.initialized RX5 ∈ wsX2_becomeMonomial := by decide +kernel
set_option maxRecDepth 20000 in
theorem mX2_becomeMonomial_2 : Cond.static yX5_exponentAt ∈ wsX2_becomeMonomial := by decide +kernel
set_option maxRecDepth 20000 in
theorem mX2_becomeMonomial_3 : Cond.fieldLink RX2 9 "SchubertDesk$Grid" "cell" "[J" ∈ wsX2_becomeMonomial := by decide +kernel
set_option maxRecDepth 20000 in
theorem nX2_becomeMonomial_X2 : ∀ w ∈ u_ws RX2 TX2 2, w ∈ wsX2_becomeMonomial := by decide +kernel
set_option maxHeartbeats 4000000 in
set_option maxRecDepth 100000 in
theorem wX2_becomeMonomial_24 {p : Program} {l : Launch} {e : Env} {s : State} {m : MethodId} {args : Array Value} {below : List Frame} {meth : Method} {c : Code} {G : GX} {A : Nat → Prop} (C : Cx p s m args meth c cX2_becomeMonomial 3 none wsX2_becomeMonomial RX2 G A) (q0 : Nat) (q0_cell : Nat) (q0_top : Nat) (p1 : Int32) (res : (Nat → Int64) × (Nat → Int32)) (n : Nat) : ∀ (k0_cell : Nat → Int64) (k0_top : Nat → Int32) (x2 : Int32) (H : Heap) (locs : List Loc) (ls : Array Slot), fX2_becomeMonomial_L24 p1 n k0_cell k0_top x2 = some res → va_P G.1 vwCl (wdX2_becomeMonomial G q0 q0_cell q0_top k0_cell k0_top) H → va_D A (wdX2_becomeMonomial G q0 q0_cell q0_top k0_cell k0_top) → va_S A s.heap H locs → lv_has ls 3 [(0, .ref q0), (1, .int p1), (2, .int x2)] → glX2_becomeMonomial p l e s m args below meth c G A q0 q0_cell q0_top res H locs 24 ls [] := by
  obtain ⟨hx, hb, hml, hown, hts, hr, hlocks, hA, hG⟩ := id C
  induction n with
  | zero => intro k0_cell k0_top x2 H locs ls hf hP hD hS hl; cases hf
  | succ n ih =>
    intro k0_cell k0_top x2 H locs ls hf hP hD hS hl
    simp only [fX2_becomeMonomial_L24] at hf
    refine lv_iload_n hx hb dX2_becomeMonomial_24 rfl (lv_at hl 2 rfl) ?_
    refine lv_iconst (v := (4 : Int32)) hx hb dX2_becomeMonomial_25 (by decide) ?_
    refine lv_icmp_gt (tgt := 46) hx hb dX2_becomeMonomial_26 (by decide) (fun hc => ?_) (fun hc => ?_)
    · have hf := if_t hc hf
      cases hf
      exact rt_v C hP hD hS dX2_becomeMonomial_46
    · have hf := if_f hc hf
      refine lv_aload_n hx hb dX2_becomeMonomial_29 rfl (lv_at hl 0 rfl) ?_
      refine va_get (D := G.1) (ci := 2) (v := .ref q0_top) (C := RX2) (T := TX2) (N := 2) hx hb hts nX2_becomeMonomial_X2 hown hG.1 hP 0 rfl rfl 1 (by decide) (hts _ mX2_becomeMonomial_0) (fun _ h9 => h9) rfl dX2_becomeMonomial_30 ?_
      refine lv_iload_n hx hb dX2_becomeMonomial_33 rfl (lv_at hl 2 rfl) ?_
      refine lv_iload_n hx hb dX2_becomeMonomial_34 rfl (lv_at hl 1 rfl) ?_
      refine lv_iload_n hx hb dX2_becomeMonomial_35 rfl (lv_at hl 2 rfl) ?_
      obtain ⟨r1, hr1, hf⟩ := bd_use hf
      refine cl_SN (host := RX5) (wn := (wdX2_becomeMonomial G q0 q0_cell q0_top k0_cell k0_top)) (st1 := [.int r1, .int x2, .ref q0_top]) C hP hD hS (tX5_exponentAt l G p1 x2 r1 hr1) ⟨va_cnB 2 hts gX2_becomeMonomial_X5_exponentAt_n38 rfl rfl rfl (hG.2.1 (.methodLinkNest RX2 38 yX5_exponentAt RX5) (by decide +kernel)) (hts _ mX2_becomeMonomial_1) (by decide +kernel) ⟨Nat.le_of_ble_eq_true rfl, Nat.le_of_ble_eq_true rfl⟩, (hts _ mX2_becomeMonomial_2), trivial⟩ [] [0, 1, 2] [0, 1, 2] rfl rfl rfl rfl (by decide) rfl rfl rfl hl.1 rfl rfl (Nat.le_of_ble_eq_true rfl) dX2_becomeMonomial_36 (fun H locs hP hD hS => ?_)
      obtain ⟨hin, hf⟩ := pI_use hf
      refine va_iast hx hb hG.1 hP hD hS 2 0 rfl rfl hin dX2_becomeMonomial_39 (fun H locs hP hD hS => ?_)
      have hP : va_P G.1 vwCl (wdX2_becomeMonomial G q0 q0_cell q0_top k0_cell (upd k0_top (x2).toNatClampNeg r1)) H := hP
      have hD : va_D A (wdX2_becomeMonomial G q0 q0_cell q0_top k0_cell (upd k0_top (x2).toNatClampNeg r1)) := hD
      obtain ⟨y3, ey3⟩ : ∃ z : Int32, z = x2 + (1 : Int32) := ⟨_, rfl⟩
      have hf := nm_use ey3 hf
      refine lv_iinc (v := y3) (lv' := [(2, .int y3), (0, .ref q0), (1, .int p1)]) hx hb dX2_becomeMonomial_40 hl (k := 2) rfl (by rw [ey3]; rfl) (by decide) rfl (fun ls hl => ?_)
      refine lv_goto (tgt := 24) hx hb dX2_becomeMonomial_43 (by decide) ?_
      exact ih k0_cell (upd k0_top (x2).toNatClampNeg r1) y3 _ _ ls hf hP hD hS (lv_sub hl [1, 2, 0] rfl)
set_option maxHeartbeats 4000000 in
set_option maxRecDepth 100000 in
theorem tX2_becomeMonomial (l : Launch) (G : GX) (q0 : Nat) (q0_cell : Nat) (q0_top : Nat) (k0_cell : Nat → Int64) (k0_top : Nat → Int32) (p1 : Int32) (res : (Nat → Int64) × (Nat → Int32)) (hf : fX2_becomeMonomial k0_cell k0_top p1 = some res) : Ct l yX2_becomeMonomial wsX2_becomeMonomial rmX2_becomeMonomial G [.ref q0, .int p1] (wdX2_becomeMonomial G q0 q0_cell q0_top k0_cell k0_top) (wdX2_becomeMonomial G q0 q0_cell q0_top res.1 res.2) none := by
  refine Ct.of (cc := cX2_becomeMonomial) (nL := 3) (ret := none) (by decide) rfl (Nat.le_of_ble_eq_true rfl) rfl ?_
  intro p e s m below meth c A ls C hP hD hl
  obtain ⟨hx, hb, hml, hown, hts, hr, hlocks, hA, hG⟩ := id C
  have hS : va_S A s.heap s.heap [] := va_S.rf
  unfold fX2_becomeMonomial at hf
  refine lv_aload_n hx hb dX2_becomeMonomial_0 rfl (lv_at hl 0 rfl) ?_
  obtain ⟨r4, hr4, hf⟩ := bd_use hf
  refine cl_V (wn := (wdX2_becomeMonomial G q0 q0_cell q0_top r4 k0_top)) (st1 := []) C hP hD hS (tX2_clear l G q0 q0_cell q0_top k0_cell r4 hr4) (cwV 0 hts gX2_becomeMonomial_X2_clear rfl rfl rfl (by decide +kernel) ⟨Nat.le_of_ble_eq_true rfl, Nat.le_of_ble_eq_true rfl⟩) [0, 1] [2] [1, 2, 0] rfl rfl rfl rfl (by decide) rfl rfl (ci := 2) (q0 := 0) rfl rfl rfl rfl hl.1 rfl rfl (Nat.le_of_ble_eq_true rfl) dX2_becomeMonomial_1 (fun H locs hP hD hS => ?_)
  refine lv_iload_n hx hb dX2_becomeMonomial_4 rfl (lv_at hl 1 rfl) ?_
  refine lv_if_lt (tgt := 22) hx hb dX2_becomeMonomial_5 (by decide) (fun hc => ?_) (fun hc => ?_)
  · have hf := if_t hc hf
    refine lv_iconst (v := (1 : Int32)) hx hb dX2_becomeMonomial_22 (by decide) ?_
    refine lv_istore_n (lv' := [(2, .int (1 : Int32)), (0, .ref q0), (1, .int p1)]) hx hb dX2_becomeMonomial_23 rfl hl (by decide) rfl (fun ls hl => ?_)
    exact wX2_becomeMonomial_24 C q0 q0_cell q0_top p1 res fu r4 k0_top (1 : Int32) _ _ ls hf hP hD hS (lv_sub hl [1, 2, 0] rfl)
  · have hf := if_f hc hf
    refine lv_iload_n hx hb dX2_becomeMonomial_8 rfl (lv_at hl 1 rfl) ?_
    refine lv_sipush (v := (3024 : Int32)) hx hb dX2_becomeMonomial_9 (by decide) ?_
    refine lv_icmp_ge (tgt := 22) hx hb dX2_becomeMonomial_12 (by decide) (fun hc => ?_) (fun hc => ?_)
    · have hf := if_t hc hf
      refine lv_iconst (v := (1 : Int32)) hx hb dX2_becomeMonomial_22 (by decide) ?_
      refine lv_istore_n (lv' := [(2, .int (1 : Int32)), (0, .ref q0), (1, .int p1)]) hx hb dX2_becomeMonomial_23 rfl hl (by decide) rfl (fun ls hl => ?_)
      exact wX2_becomeMonomial_24 C q0 q0_cell q0_top p1 res fu r4 k0_top (1 : Int32) _ _ ls hf hP hD hS (lv_sub hl [1, 2, 0] rfl)
    · have hf := if_f hc hf
      refine lv_aload_n hx hb dX2_becomeMonomial_15 rfl (lv_at hl 0 rfl) ?_
      refine va_get (D := G.1) (ci := 2) (v := .ref q0_cell) (C := RX2) (T := TX2) (N := 2) hx hb hts nX2_becomeMonomial_X2 hown hG.1 hP 0 rfl rfl 0 (by decide) (hts _ mX2_becomeMonomial_3) (fun _ h9 => h9) rfl dX2_becomeMonomial_16 ?_
      refine lv_iload_n hx hb dX2_becomeMonomial_19 rfl (lv_at hl 1 rfl) ?_
      refine lv_lconst (v := (1 : Int64)) hx hb dX2_becomeMonomial_20 (by decide) ?_
      obtain ⟨hin, hf⟩ := pJ_use hf
      refine va_last hx hb hG.1 hP hD hS 1 1 rfl rfl hin dX2_becomeMonomial_21 (fun H locs hP hD hS => ?_)
      have hP : va_P G.1 vwCl (wdX2_becomeMonomial G q0 q0_cell q0_top (vp_updL r4 (p1).toNatClampNeg (1 : Int64)) k0_top) H := hP
      have hD : va_D A (wdX2_becomeMonomial G q0 q0_cell q0_top (vp_updL r4 (p1).toNatClampNeg (1 : Int64)) k0_top) := hD
      refine lv_iconst (v := (1 : Int32)) hx hb dX2_becomeMonomial_22 (by decide) ?_
      refine lv_istore_n (lv' := [(2, .int (1 : Int32)), (0, .ref q0), (1, .int p1)]) hx hb dX2_becomeMonomial_23 rfl hl (by decide) rfl (fun ls hl => ?_)
      exact wX2_becomeMonomial_24 C q0 q0_cell q0_top p1 res fu (vp_updL r4 (p1).toNatClampNeg (1 : Int64)) k0_top (1 : Int32) _ _ ls hf hP hD hS (lv_sub hl [1, 2, 0] rfl)
abbrev wdJ7_fill_53178 (G : GX) (nA : Nat) (q0 : Nat) (k0 : Nat → Int32) : va_W := [(q0, .inl (G.2.1, nA, .inl k0))]
abbrev rmJ7_fill_53178 : Room := { frames := 0, cells := 0, slots := 0, locals := 0 }
abbrev glJ7_fill_53178 (p : Program) (l : Launch) (e : Env) (s : State) (m : MethodId) (args : Array Value) (below : List Frame) (meth : Method) (c : Code) (G : GX) (A : Nat → Prop) (nA : Nat) (q0 : Nat) (res : (Nat → Int32)) (H : Heap) (locs : List Loc) (pc : Nat) (ls : Array Slot) (st : List Value) : Prop := W p l e rmJ7_fill_53178 s m args below meth c H locs 0 0 (MQ below (ctQ G A (wdJ7_fill_53178 G nA q0 res) none) args s 0 0 A) (F0 m pc ls st)
set_option maxHeartbeats 4000000 in
set_option maxRecDepth 100000 in
theorem wJ7_fill_53178_5 {p : Program} {l : Launch} {e : Env} {s : State} {m : MethodId} {args : Array Value} {below : List Frame} {meth : Method} {c : Code} {G : GX} {A : Nat → Prop} (C : Cx p s m args meth c cJ7_fill_53178 4 none wsJ7_fill_53178 RJ7 G A) (nA : Nat) (q0 : Nat) (p1 : Int32) (res : (Nat → Int32)) (n : Nat) : ∀ (k0 : Nat → Int32) (x2 : Int32) (x3 : Int32) (H : Heap) (locs : List Loc) (ls : Array Slot), fJ7_fill_53178_L5 nA p1 n k0 x2 x3 = some res → va_P G.1 vwCl (wdJ7_fill_53178 G nA q0 k0) H → va_D A (wdJ7_fill_53178 G nA q0 k0) → va_S A s.heap H locs → lv_has ls 4 [(0, .ref q0), (1, .int p1), (2, .int x2), (3, .int x3)] → glJ7_fill_53178 p l e s m args below meth c G A nA q0 res H locs 5 ls [] := by
  obtain ⟨hx, hb, hml, hown, hts, hr, hlocks, hA, hG⟩ := id C
  induction n with
  | zero => intro k0 x2 x3 H locs ls hf hP hD hS hl; cases hf
  | succ n ih =>
    intro k0 x2 x3 H locs ls hf hP hD hS hl
    simp only [fJ7_fill_53178_L5] at hf
    refine lv_iload_n hx hb dJ7_fill_53178_5 rfl (lv_at hl 2 rfl) ?_
    refine lv_iload_n hx hb dJ7_fill_53178_6 rfl (lv_at hl 3 rfl) ?_
    refine lv_icmp_ge (tgt := 20) hx hb dJ7_fill_53178_7 (by decide) (fun hc => ?_) (fun hc => ?_)
    · have hf := if_t hc hf
      cases hf
      exact rt_v C hP hD hS dJ7_fill_53178_20
    · have hf := if_f hc hf
      refine lv_aload_n hx hb dJ7_fill_53178_10 rfl (lv_at hl 0 rfl) ?_
      refine lv_iload_n hx hb dJ7_fill_53178_11 rfl (lv_at hl 2 rfl) ?_
      refine lv_iload_n hx hb dJ7_fill_53178_12 rfl (lv_at hl 1 rfl) ?_
      obtain ⟨hin, hf⟩ := pI_use hf
      refine va_iast hx hb hG.1 hP hD hS 0 0 rfl rfl hin dJ7_fill_53178_13 (fun H locs hP hD hS => ?_)
      have hP : va_P G.1 vwCl (wdJ7_fill_53178 G nA q0 (upd k0 (x2).toNatClampNeg p1)) H := hP
      have hD : va_D A (wdJ7_fill_53178 G nA q0 (upd k0 (x2).toNatClampNeg p1)) := hD
      obtain ⟨y2, ey2⟩ : ∃ z : Int32, z = x2 + (1 : Int32) := ⟨_, rfl⟩
      have hf := nm_use ey2 hf
      refine lv_iinc (v := y2) (lv' := [(2, .int y2), (0, .ref q0), (1, .int p1), (3, .int x3)]) hx hb dJ7_fill_53178_14 hl (k := 2) rfl (by rw [ey2]; rfl) (by decide) rfl (fun ls hl => ?_)
      refine lv_goto (tgt := 5) hx hb dJ7_fill_53178_17 (by decide) ?_
      exact ih (upd k0 (x2).toNatClampNeg p1) y2 x3 _ _ ls hf hP hD hS (lv_sub hl [1, 2, 0, 3] rfl)
set_option maxHeartbeats 4000000 in
set_option maxRecDepth 100000 in
theorem tJ7_fill_53178 (l : Launch) (G : GX) (nA : Nat) (q0 : Nat) (k0 : Nat → Int32) (p1 : Int32) (res : (Nat → Int32)) (hf : fJ7_fill_53178 nA k0 p1 = some res) : Ct l yJ7_fill_53178 wsJ7_fill_53178 rmJ7_fill_53178 G [.ref q0, .int p1] (wdJ7_fill_53178 G nA q0 k0) (wdJ7_fill_53178 G nA q0 res) none := by
  refine Ct.of (cc := cJ7_fill_53178) (nL := 4) (ret := none) (by decide) rfl (Nat.le_of_ble_eq_true rfl) rfl ?_
  intro p e s m below meth c A ls C hP hD hl
  obtain ⟨hx, hb, hml, hown, hts, hr, hlocks, hA, hG⟩ := id C
  have hS : va_S A s.heap s.heap [] := va_S.rf
  unfold fJ7_fill_53178 at hf
  refine lv_iconst (v := (0 : Int32)) hx hb dJ7_fill_53178_0 (by decide) ?_
  refine lv_istore_n (lv' := [(2, .int (0 : Int32)), (0, .ref q0), (1, .int p1)]) hx hb dJ7_fill_53178_1 rfl hl (by decide) rfl (fun ls hl => ?_)
  refine lv_aload_n hx hb dJ7_fill_53178_2 rfl (lv_at hl 1 rfl) ?_
  refine va_alen (v := (Int32.ofNat nA)) hx hb hG.1 hP 0 0 rfl rfl rfl dJ7_fill_53178_3 ?_
  refine lv_topi (fun y3 ey3 => ?_)
  have hf := nm_use ey3 hf
  refine lv_istore_n (lv' := [(3, .int y3), (2, .int (0 : Int32)), (0, .ref q0), (1, .int p1)]) hx hb dJ7_fill_53178_4 rfl hl (by decide) rfl (fun ls hl => ?_)
  exact wJ7_fill_53178_5 C nA q0 p1 res fu k0 (0 : Int32) y3 _ _ ls hf hP hD hS (lv_sub hl [2, 3, 1, 0] rfl)
abbrev wdX2_measure (G : GX) (q0 : Nat) (q0_cell : Nat) (q0_top : Nat) (k0_cell : Nat → Int64) (k0_top : Nat → Int32) : va_W := [(q0, .inr (2, [.ref q0_cell, .ref q0_top])), (q0_cell, .inl (G.2.2.1, 3024, .inr (.inl k0_cell))), (q0_top, .inl (G.2.1, 5, .inl k0_top))]
abbrev rmX2_measure : Room := { frames := 1, cells := 0, slots := 0, locals := 60 }
abbrev glX2_measure (p : Program) (l : Launch) (e : Env) (s : State) (m : MethodId) (args : Array Value) (below : List Frame) (meth : Method) (c : Code) (G : GX) (A : Nat → Prop) (q0 : Nat) (q0_cell : Nat) (q0_top : Nat) (k0_cell : Nat → Int64) (res : (Nat → Int32)) (H : Heap) (locs : List Loc) (pc : Nat) (ls : Array Slot) (st : List Value) : Prop := W p l e rmX2_measure s m args below meth c H locs 0 0 (MQ below (ctQ G A (wdX2_measure G q0 q0_cell q0_top k0_cell res) none) args s 0 0 A) (F0 m pc ls st)
set_option maxRecDepth 20000 in
theorem mX2_measure_0 : Cond.fieldLink RX2 15 "SchubertDesk$Grid" "top" "[I" ∈ wsX2_measure := by decide +kernel
set_option maxRecDepth 20000 in
theorem mX2_measure_1 : Cond.initialized RX5 ∈ wsX2_measure := by decide +kernel
set_option maxRecDepth 20000 in
theorem mX2_measure_2 : Cond.static yX5_exponentAt ∈ wsX2_measure := by decide +kernel
set_option maxRecDepth 20000 in
theorem mX2_measure_3 : Cond.methodLink RX2 45 Lib.Math.max.name ∈ wsX2_measure := by decide +kernel
set_option maxRecDepth 20000 in
theorem mX2_measure_4 : Cond.static Lib.Math.max.name ∈ wsX2_measure := by decide +kernel
set_option maxRecDepth 20000 in
theorem mX2_measure_5 : Cond.initialized "java/lang/Math" ∈ wsX2_measure := by decide +kernel
set_option maxRecDepth 20000 in
theorem mX2_measure_6 : Cond.code Lib.Math.max.name Lib.Math.max.code 2 (some .int) ∈ wsX2_measure := by decide +kernel
set_option maxRecDepth 20000 in
theorem mX2_measure_7 : Cond.fieldLink RX2 9 "SchubertDesk$Grid" "cell" "[J" ∈ wsX2_measure := by decide +kernel
set_option maxRecDepth 20000 in
theorem nX2_measure_X2 : ∀ w ∈ u_ws RX2 TX2 2, w ∈ wsX2_measure := by decide +kernel
set_option maxHeartbeats 4000000 in
set_option maxRecDepth 100000 in
theorem wX2_measure_30 {p : Program} {l : Launch} {e : Env} {s : State} {m : MethodId} {args : Array Value} {below : List Frame} {meth : Method} {c : Code} {G : GX} {A : Nat → Prop} (C : Cx p s m args meth c cX2_measure 3 none wsX2_measure RX2 G A) (q0 : Nat) (q0_cell : Nat) (q0_top : Nat) (k0_cell : Nat → Int64) (res : (Nat → Int32)) (rec10 : (Nat → Int32) → Int32 → Option ((Nat → Int32))) (hr10 : ∀ (k0_top : Nat → Int32) (x1 : Int32) (H : Heap) (locs : List Loc) (ls : Array Slot), rec10 k0_top x1 = some res → va_P G.1 vwCl (wdX2_measure G q0 q0_cell q0_top k0_cell k0_top) H → va_D A (wdX2_measure G q0 q0_cell q0_top k0_cell k0_top) → va_S A s.heap H locs → lv_has ls 3 [(0, .ref q0), (1, .int x1)] → glX2_measure p l e s m args below meth c G A q0 q0_cell q0_top k0_cell res H locs 10 ls []) (n : Nat) : ∀ (k0_top : Nat → Int32) (x1 : Int32) (x2 : Int32) (H : Heap) (locs : List Loc) (ls : Array Slot), fX2_measure_L30 k0_cell rec10 n k0_top x1 x2 = some res → va_P G.1 vwCl (wdX2_measure G q0 q0_cell q0_top k0_cell k0_top) H → va_D A (wdX2_measure G q0 q0_cell q0_top k0_cell k0_top) → va_S A s.heap H locs → lv_has ls 3 [(0, .ref q0), (1, .int x1), (2, .int x2)] → glX2_measure p l e s m args below meth c G A q0 q0_cell q0_top k0_cell res H locs 30 ls [] := by
  obtain ⟨hx, hb, hml, hown, hts, hr, hlocks, hA, hG⟩ := id C
  induction n with
  | zero => intro k0_top x1 x2 H locs ls hf hP hD hS hl; cases hf
  | succ n ih =>
    intro k0_top x1 x2 H locs ls hf hP hD hS hl
    simp only [fX2_measure_L30] at hf
    refine lv_iload_n hx hb dX2_measure_30 rfl (lv_at hl 2 rfl) ?_
    refine lv_iconst (v := (4 : Int32)) hx hb dX2_measure_31 (by decide) ?_
    refine lv_icmp_gt (tgt := 61) hx hb dX2_measure_32 (by decide) (fun hc => ?_) (fun hc => ?_)
    · have hf := if_t hc hf
      obtain ⟨y1, ey1⟩ : ∃ z : Int32, z = x1 + (1 : Int32) := ⟨_, rfl⟩
      have hf := nm_use ey1 hf
      refine lv_iinc (v := y1) (lv' := [(1, .int y1), (0, .ref q0), (2, .int x2)]) hx hb dX2_measure_61 hl (k := 1) rfl (by rw [ey1]; rfl) (by decide) rfl (fun ls hl => ?_)
      refine lv_goto (tgt := 10) hx hb dX2_measure_64 (by decide) ?_
      exact hr10 k0_top y1 _ _ ls hf hP hD hS (lv_sub hl [1, 0] rfl)
    · have hf := if_f hc hf
      refine lv_aload_n hx hb dX2_measure_35 rfl (lv_at hl 0 rfl) ?_
      refine va_get (D := G.1) (ci := 2) (v := .ref q0_top) (C := RX2) (T := TX2) (N := 2) hx hb hts nX2_measure_X2 hown hG.1 hP 0 rfl rfl 1 (by decide) (hts _ mX2_measure_0) (fun _ h9 => h9) rfl dX2_measure_36 ?_
      refine lv_iload_n hx hb dX2_measure_39 rfl (lv_at hl 2 rfl) ?_
      refine lv_aload_n hx hb dX2_measure_40 rfl (lv_at hl 0 rfl) ?_
      refine va_get (D := G.1) (ci := 2) (v := .ref q0_top) (C := RX2) (T := TX2) (N := 2) hx hb hts nX2_measure_X2 hown hG.1 hP 0 rfl rfl 1 (by decide) (hts _ mX2_measure_0) (fun _ h9 => h9) rfl dX2_measure_41 ?_
      refine lv_iload_n hx hb dX2_measure_44 rfl (lv_at hl 2 rfl) ?_
      obtain ⟨hin, hf⟩ := gI_use hf
      refine va_iald hx hb hG.1 hP 2 0 rfl rfl hin dX2_measure_45 ?_
      refine lv_iload_n hx hb dX2_measure_46 rfl (lv_at hl 1 rfl) ?_
      refine lv_iload_n hx hb dX2_measure_47 rfl (lv_at hl 2 rfl) ?_
      obtain ⟨r3, hr3, hf⟩ := bd_use hf
      refine cl_SN (host := RX5) (wn := (wdX2_measure G q0 q0_cell q0_top k0_cell k0_top)) (st1 := [.int r3, .int (k0_top (x2).toNatClampNeg), .int x2, .ref q0_top]) C hP hD hS (tX5_exponentAt l G x1 x2 r3 hr3) ⟨va_cnB 2 hts gX2_measure_X5_exponentAt_n38 rfl rfl rfl (hG.2.1 (.methodLinkNest RX2 38 yX5_exponentAt RX5) (by decide +kernel)) (hts _ mX2_measure_1) (by decide +kernel) ⟨Nat.le_of_ble_eq_true rfl, Nat.le_of_ble_eq_true rfl⟩, (hts _ mX2_measure_2), trivial⟩ [] [0, 1, 2] [0, 1, 2] rfl rfl rfl rfl (by decide) rfl rfl rfl hl.1 rfl rfl (Nat.le_of_ble_eq_true rfl) dX2_measure_48 (fun H locs hP hD hS => ?_)
      refine va_mmax hx hb (hml.trans hl.1.symm) hown (hts _ mX2_measure_3) (hts _ mX2_measure_4) (hts _ mX2_measure_5) (hts _ mX2_measure_6) (Nat.le_of_ble_eq_true rfl) (Nat.le_of_ble_eq_true rfl) (Nat.zero_le _) (Nat.zero_le _) dX2_measure_51 ?_
      obtain ⟨hin, hf⟩ := pI_use hf
      refine va_iast hx hb hG.1 hP hD hS 2 0 rfl rfl hin dX2_measure_54 (fun H locs hP hD hS => ?_)
      have hP : va_P G.1 vwCl (wdX2_measure G q0 q0_cell q0_top k0_cell (upd k0_top (x2).toNatClampNeg (if (k0_top (x2).toNatClampNeg) < r3 then r3 else (k0_top (x2).toNatClampNeg)))) H := hP
      have hD : va_D A (wdX2_measure G q0 q0_cell q0_top k0_cell (upd k0_top (x2).toNatClampNeg (if (k0_top (x2).toNatClampNeg) < r3 then r3 else (k0_top (x2).toNatClampNeg)))) := hD
      obtain ⟨y5, ey5⟩ : ∃ z : Int32, z = x2 + (1 : Int32) := ⟨_, rfl⟩
      have hf := nm_use ey5 hf
      refine lv_iinc (v := y5) (lv' := [(2, .int y5), (0, .ref q0), (1, .int x1)]) hx hb dX2_measure_55 hl (k := 2) rfl (by rw [ey5]; rfl) (by decide) rfl (fun ls hl => ?_)
      refine lv_goto (tgt := 30) hx hb dX2_measure_58 (by decide) ?_
      exact ih (upd k0_top (x2).toNatClampNeg (if (k0_top (x2).toNatClampNeg) < r3 then r3 else (k0_top (x2).toNatClampNeg))) x1 y5 _ _ ls hf hP hD hS (lv_sub hl [1, 2, 0] rfl)
set_option maxHeartbeats 4000000 in
set_option maxRecDepth 100000 in
theorem wX2_measure_10 {p : Program} {l : Launch} {e : Env} {s : State} {m : MethodId} {args : Array Value} {below : List Frame} {meth : Method} {c : Code} {G : GX} {A : Nat → Prop} (C : Cx p s m args meth c cX2_measure 3 none wsX2_measure RX2 G A) (q0 : Nat) (q0_cell : Nat) (q0_top : Nat) (k0_cell : Nat → Int64) (res : (Nat → Int32)) (n : Nat) : ∀ (k0_top : Nat → Int32) (x1 : Int32) (H : Heap) (locs : List Loc) (ls : Array Slot), fX2_measure_L10 k0_cell n k0_top x1 = some res → va_P G.1 vwCl (wdX2_measure G q0 q0_cell q0_top k0_cell k0_top) H → va_D A (wdX2_measure G q0 q0_cell q0_top k0_cell k0_top) → va_S A s.heap H locs → lv_has ls 3 [(0, .ref q0), (1, .int x1)] → glX2_measure p l e s m args below meth c G A q0 q0_cell q0_top k0_cell res H locs 10 ls [] := by
  obtain ⟨hx, hb, hml, hown, hts, hr, hlocks, hA, hG⟩ := id C
  induction n with
  | zero => intro k0_top x1 H locs ls hf hP hD hS hl; cases hf
  | succ n ih =>
    intro k0_top x1 H locs ls hf hP hD hS hl
    simp only [fX2_measure_L10] at hf
    refine lv_iload_n hx hb dX2_measure_10 rfl (lv_at hl 1 rfl) ?_
    refine lv_sipush (v := (3024 : Int32)) hx hb dX2_measure_11 (by decide) ?_
    refine lv_icmp_ge (tgt := 67) hx hb dX2_measure_14 (by decide) (fun hc => ?_) (fun hc => ?_)
    · have hf := if_t hc hf
      cases hf
      exact rt_v C hP hD hS dX2_measure_67
    · have hf := if_f hc hf
      refine lv_aload_n hx hb dX2_measure_17 rfl (lv_at hl 0 rfl) ?_
      refine va_get (D := G.1) (ci := 2) (v := .ref q0_cell) (C := RX2) (T := TX2) (N := 2) hx hb hts nX2_measure_X2 hown hG.1 hP 0 rfl rfl 0 (by decide) (hts _ mX2_measure_7) (fun _ h9 => h9) rfl dX2_measure_18 ?_
      refine lv_iload_n hx hb dX2_measure_21 rfl (lv_at hl 1 rfl) ?_
      obtain ⟨hin, hf⟩ := gJ_use hf
      refine va_lald hx hb hG.1 hP 1 1 rfl rfl hin dX2_measure_22 ?_
      refine lv_lconst (v := (0 : Int64)) hx hb dX2_measure_23 (by decide) ?_
      refine W.lcmp hx hb dX2_measure_24 ?_
      refine lv_if_eq (tgt := 61) hx hb dX2_measure_25 (by decide) (fun hc => ?_) (fun hc => ?_)
      · have hf := if_t hc hf
        obtain ⟨y7, ey7⟩ : ∃ z : Int32, z = x1 + (1 : Int32) := ⟨_, rfl⟩
        have hf := nm_use ey7 hf
        refine lv_iinc (v := y7) (lv' := [(1, .int y7), (0, .ref q0)]) hx hb dX2_measure_61 hl (k := 1) rfl (by rw [ey7]; rfl) (by decide) rfl (fun ls hl => ?_)
        refine lv_goto (tgt := 10) hx hb dX2_measure_64 (by decide) ?_
        exact ih k0_top y7 _ _ ls hf hP hD hS (lv_sub hl [1, 0] rfl)
      · have hf := if_f hc hf
        refine lv_iconst (v := (1 : Int32)) hx hb dX2_measure_28 (by decide) ?_
        refine lv_istore_n (lv' := [(2, .int (1 : Int32)), (0, .ref q0), (1, .int x1)]) hx hb dX2_measure_29 rfl hl (by decide) rfl (fun ls hl => ?_)
        exact wX2_measure_30 C q0 q0_cell q0_top k0_cell res (fX2_measure_L10 k0_cell n) ih fu k0_top x1 (1 : Int32) _ _ ls hf hP hD hS (lv_sub hl [1, 2, 0] rfl)
set_option maxHeartbeats 4000000 in
set_option maxRecDepth 100000 in
theorem tX2_measure (l : Launch) (G : GX) (q0 : Nat) (q0_cell : Nat) (q0_top : Nat) (k0_cell : Nat → Int64) (k0_top : Nat → Int32) (res : (Nat → Int32)) (hf : fX2_measure k0_cell k0_top = some res) : Ct l yX2_measure wsX2_measure rmX2_measure G [.ref q0] (wdX2_measure G q0 q0_cell q0_top k0_cell k0_top) (wdX2_measure G q0 q0_cell q0_top k0_cell res) none := by
  refine Ct.of (cc := cX2_measure) (nL := 3) (ret := none) (by decide) rfl (Nat.le_of_ble_eq_true rfl) rfl ?_
  intro p e s m below meth c A ls C hP hD hl
  obtain ⟨hx, hb, hml, hown, hts, hr, hlocks, hA, hG⟩ := id C
  have hS : va_S A s.heap s.heap [] := va_S.rf
  unfold fX2_measure at hf
  refine lv_aload_n hx hb dX2_measure_0 rfl (lv_at hl 0 rfl) ?_
  refine va_get (D := G.1) (ci := 2) (v := .ref q0_top) (C := RX2) (T := TX2) (N := 2) hx hb hts nX2_measure_X2 hown hG.1 hP 0 rfl rfl 1 (by decide) (hts _ mX2_measure_0) (fun _ h9 => h9) rfl dX2_measure_1 ?_
  refine lv_iconst (v := (0 : Int32)) hx hb dX2_measure_4 (by decide) ?_
  obtain ⟨r8, hr8, hf⟩ := bd_use hf
  refine cl_S (wn := (wdX2_measure G q0 q0_cell q0_top k0_cell r8)) (st1 := []) C hP hD hS (tJ7_fill_53178 l G 5 q0_top k0_top (0 : Int32) r8 hr8) (va_cwS 2 hts gX2_measure_J7_fill_53178 rfl rfl rfl (by decide +kernel) ⟨Nat.le_of_ble_eq_true rfl, Nat.le_of_ble_eq_true rfl⟩) [2] [0, 1] [0, 1, 2] rfl rfl rfl rfl (by decide) rfl rfl rfl hl.1 rfl rfl (Nat.le_of_ble_eq_true rfl) dX2_measure_5 (fun H locs hP hD hS => ?_)
  refine lv_iconst (v := (0 : Int32)) hx hb dX2_measure_8 (by decide) ?_
  refine lv_istore_n (lv' := [(1, .int (0 : Int32)), (0, .ref q0)]) hx hb dX2_measure_9 rfl hl (by decide) rfl (fun ls hl => ?_)
  exact wX2_measure_10 C q0 q0_cell q0_top k0_cell res fu r8 (0 : Int32) _ _ ls hf hP hD hS (lv_sub hl [1, 0] rfl)
abbrev wdX2_degreeBound (G : GX) (q0 : Nat) (q0_cell : Nat) (q0_top : Nat) (k0_top : Nat → Int32) : va_W := [(q0, .inr (2, [.ref q0_cell, .ref q0_top])), (q0_top, .inl (G.2.1, 5, .inl k0_top))]
abbrev rmX2_degreeBound : Room := { frames := 0, cells := 0, slots := 0, locals := 0 }
abbrev glX2_degreeBound (p : Program) (l : Launch) (e : Env) (s : State) (m : MethodId) (args : Array Value) (below : List Frame) (meth : Method) (c : Code) (G : GX) (A : Nat → Prop) (q0 : Nat) (q0_cell : Nat) (q0_top : Nat) (k0_top : Nat → Int32) (res : Int32) (H : Heap) (locs : List Loc) (pc : Nat) (ls : Array Slot) (st : List Value) : Prop := W p l e rmX2_degreeBound s m args below meth c H locs 0 0 (MQ below (ctQ G A (wdX2_degreeBound G q0 q0_cell q0_top k0_top) (some (.int res))) args s 0 0 A) (F0 m pc ls st)
set_option maxRecDepth 20000 in
theorem mX2_degreeBound_0 : Cond.fieldLink RX2 15 "SchubertDesk$Grid" "top" "[I" ∈ wsX2_degreeBound := by decide +kernel
set_option maxRecDepth 20000 in
theorem nX2_degreeBound_X2 : ∀ w ∈ u_ws RX2 TX2 2, w ∈ wsX2_degreeBound := by decide +kernel
set_option maxHeartbeats 4000000 in
set_option maxRecDepth 100000 in
theorem tX2_degreeBound (l : Launch) (G : GX) (q0 : Nat) (q0_cell : Nat) (q0_top : Nat) (k0_top : Nat → Int32) (res : Int32) (hf : fX2_degreeBound k0_top = some res) : Ct l yX2_degreeBound wsX2_degreeBound rmX2_degreeBound G [.ref q0] (wdX2_degreeBound G q0 q0_cell q0_top k0_top) (wdX2_degreeBound G q0 q0_cell q0_top k0_top) (some (.int res)) := by
  refine Ct.of (cc := cX2_degreeBound) (nL := 1) (ret := (some .int)) (by decide) rfl (Nat.le_of_ble_eq_true rfl) rfl ?_
  intro p e s m below meth c A ls C hP hD hl
  obtain ⟨hx, hb, hml, hown, hts, hr, hlocks, hA, hG⟩ := id C
  have hS : va_S A s.heap s.heap [] := va_S.rf
  unfold fX2_degreeBound at hf
  refine lv_aload_n hx hb dX2_degreeBound_0 rfl (lv_at hl 0 rfl) ?_
  refine va_get (D := G.1) (ci := 2) (v := .ref q0_top) (C := RX2) (T := TX2) (N := 2) hx hb hts nX2_degreeBound_X2 hown hG.1 hP 0 rfl rfl 1 (by decide) (hts _ mX2_degreeBound_0) (fun _ h9 => h9) rfl dX2_degreeBound_1 ?_
  refine lv_iconst (v := (1 : Int32)) hx hb dX2_degreeBound_4 (by decide) ?_
  obtain ⟨hin, hf⟩ := gI_use hf
  refine va_iald hx hb hG.1 hP 1 0 rfl rfl hin dX2_degreeBound_5 ?_
  refine lv_aload_n hx hb dX2_degreeBound_6 rfl (lv_at hl 0 rfl) ?_
  refine va_get (D := G.1) (ci := 2) (v := .ref q0_top) (C := RX2) (T := TX2) (N := 2) hx hb hts nX2_degreeBound_X2 hown hG.1 hP 0 rfl rfl 1 (by decide) (hts _ mX2_degreeBound_0) (fun _ h9 => h9) rfl dX2_degreeBound_7 ?_
  refine lv_iconst (v := (2 : Int32)) hx hb dX2_degreeBound_10 (by decide) ?_
  obtain ⟨hin, hf⟩ := gI_use hf
  refine va_iald hx hb hG.1 hP 1 0 rfl rfl hin dX2_degreeBound_11 ?_
  refine lv_iadd hx hb dX2_degreeBound_12 ?_
  refine lv_aload_n hx hb dX2_degreeBound_13 rfl (lv_at hl 0 rfl) ?_
  refine va_get (D := G.1) (ci := 2) (v := .ref q0_top) (C := RX2) (T := TX2) (N := 2) hx hb hts nX2_degreeBound_X2 hown hG.1 hP 0 rfl rfl 1 (by decide) (hts _ mX2_degreeBound_0) (fun _ h9 => h9) rfl dX2_degreeBound_14 ?_
  refine lv_iconst (v := (3 : Int32)) hx hb dX2_degreeBound_17 (by decide) ?_
  obtain ⟨hin, hf⟩ := gI_use hf
  refine va_iald hx hb hG.1 hP 1 0 rfl rfl hin dX2_degreeBound_18 ?_
  refine lv_iadd hx hb dX2_degreeBound_19 ?_
  refine lv_aload_n hx hb dX2_degreeBound_20 rfl (lv_at hl 0 rfl) ?_
  refine va_get (D := G.1) (ci := 2) (v := .ref q0_top) (C := RX2) (T := TX2) (N := 2) hx hb hts nX2_degreeBound_X2 hown hG.1 hP 0 rfl rfl 1 (by decide) (hts _ mX2_degreeBound_0) (fun _ h9 => h9) rfl dX2_degreeBound_21 ?_
  refine lv_iconst (v := (4 : Int32)) hx hb dX2_degreeBound_24 (by decide) ?_
  obtain ⟨hin, hf⟩ := gI_use hf
  refine va_iald hx hb hG.1 hP 1 0 rfl rfl hin dX2_degreeBound_25 ?_
  refine lv_iadd hx hb dX2_degreeBound_26 ?_
  cases hf
  exact rt_i C hP hD hS dX2_degreeBound_27
abbrev wdX2_hasRoomFor (G : GX) (q0 : Nat) (q0_cell : Nat) (q0_top : Nat) (q1 : Nat) (q1_cell : Nat) (q1_top : Nat) (k0_top : Nat → Int32) (k1_top : Nat → Int32) : va_W := [(q0, .inr (2, [.ref q0_cell, .ref q0_top])), (q0_top, .inl (G.2.1, 5, .inl k0_top)), (q1, .inr (2, [.ref q1_cell, .ref q1_top])), (q1_top, .inl (G.2.1, 5, .inl k1_top))]
abbrev rmX2_hasRoomFor : Room := { frames := 0, cells := 0, slots := 0, locals := 0 }
abbrev glX2_hasRoomFor (p : Program) (l : Launch) (e : Env) (s : State) (m : MethodId) (args : Array Value) (below : List Frame) (meth : Method) (c : Code) (G : GX) (A : Nat → Prop) (q0 : Nat) (q0_cell : Nat) (q0_top : Nat) (q1 : Nat) (q1_cell : Nat) (q1_top : Nat) (k0_top : Nat → Int32) (k1_top : Nat → Int32) (res : Int32) (H : Heap) (locs : List Loc) (pc : Nat) (ls : Array Slot) (st : List Value) : Prop := W p l e rmX2_hasRoomFor s m args below meth c H locs 0 0 (MQ below (ctQ G A (wdX2_hasRoomFor G q0 q0_cell q0_top q1 q1_cell q1_top k0_top k1_top) (some (.int res))) args s 0 0 A) (F0 m pc ls st)
set_option maxRecDepth 20000 in
theorem mX2_hasRoomFor_0 : Cond.fieldLink RX2 15 "SchubertDesk$Grid" "top" "[I" ∈ wsX2_hasRoomFor := by decide +kernel
set_option maxRecDepth 20000 in
theorem nX2_hasRoomFor_X2 : ∀ w ∈ u_ws RX2 TX2 2, w ∈ wsX2_hasRoomFor := by decide +kernel
set_option maxHeartbeats 4000000 in
set_option maxRecDepth 100000 in
theorem wX2_hasRoomFor_2 {p : Program} {l : Launch} {e : Env} {s : State} {m : MethodId} {args : Array Value} {below : List Frame} {meth : Method} {c : Code} {G : GX} {A : Nat → Prop} (C : Cx p s m args meth c cX2_hasRoomFor 3 (some .boolean) wsX2_hasRoomFor RX2 G A) (q0 : Nat) (q0_cell : Nat) (q0_top : Nat) (q1 : Nat) (q1_cell : Nat) (q1_top : Nat) (k0_top : Nat → Int32) (k1_top : Nat → Int32) (res : Int32) (n : Nat) : ∀ (x2 : Int32) (H : Heap) (locs : List Loc) (ls : Array Slot), fX2_hasRoomFor_L2 k0_top k1_top n x2 = some res → va_P G.1 vwCl (wdX2_hasRoomFor G q0 q0_cell q0_top q1 q1_cell q1_top k0_top k1_top) H → va_D A (wdX2_hasRoomFor G q0 q0_cell q0_top q1 q1_cell q1_top k0_top k1_top) → va_S A s.heap H locs → lv_has ls 3 [(0, .ref q0), (1, .ref q1), (2, .int x2)] → glX2_hasRoomFor p l e s m args below meth c G A q0 q0_cell q0_top q1 q1_cell q1_top k0_top k1_top res H locs 2 ls [] := by
  obtain ⟨hx, hb, hml, hown, hts, hr, hlocks, hA, hG⟩ := id C
  induction n with
  | zero => intro x2 H locs ls hf hP hD hS hl; cases hf
  | succ n ih =>
    intro x2 H locs ls hf hP hD hS hl
    simp only [fX2_hasRoomFor_L2] at hf
    refine lv_iload_n hx hb dX2_hasRoomFor_2 rfl (lv_at hl 2 rfl) ?_
    refine lv_iconst (v := (4 : Int32)) hx hb dX2_hasRoomFor_3 (by decide) ?_
    refine lv_icmp_gt (tgt := 36) hx hb dX2_hasRoomFor_4 (by decide) (fun hc => ?_) (fun hc => ?_)
    · have hf := if_t hc hf
      refine lv_iconst (v := (1 : Int32)) hx hb dX2_hasRoomFor_36 (by decide) ?_
      cases hf
      exact rt_z C (Or.inr rfl) hP hD hS dX2_hasRoomFor_37
    · have hf := if_f hc hf
      refine lv_aload_n hx hb dX2_hasRoomFor_7 rfl (lv_at hl 0 rfl) ?_
      refine va_get (D := G.1) (ci := 2) (v := .ref q0_top) (C := RX2) (T := TX2) (N := 2) hx hb hts nX2_hasRoomFor_X2 hown hG.1 hP 0 rfl rfl 1 (by decide) (hts _ mX2_hasRoomFor_0) (fun _ h9 => h9) rfl dX2_hasRoomFor_8 ?_
      refine lv_iload_n hx hb dX2_hasRoomFor_11 rfl (lv_at hl 2 rfl) ?_
      obtain ⟨hin, hf⟩ := gI_use hf
      refine va_iald hx hb hG.1 hP 1 0 rfl rfl hin dX2_hasRoomFor_12 ?_
      refine lv_aload_n hx hb dX2_hasRoomFor_13 rfl (lv_at hl 1 rfl) ?_
      refine va_get (D := G.1) (ci := 2) (v := .ref q1_top) (C := RX2) (T := TX2) (N := 2) hx hb hts nX2_hasRoomFor_X2 hown hG.1 hP 2 rfl rfl 1 (by decide) (hts _ mX2_hasRoomFor_0) (fun _ h9 => h9) rfl dX2_hasRoomFor_14 ?_
      refine lv_iload_n hx hb dX2_hasRoomFor_17 rfl (lv_at hl 2 rfl) ?_
      obtain ⟨hin, hf⟩ := gI_use hf
      refine va_iald hx hb hG.1 hP 3 0 rfl rfl hin dX2_hasRoomFor_18 ?_
      refine lv_iadd hx hb dX2_hasRoomFor_19 ?_
      refine va_getsN hx hb hG.2.2.2.1.1 hS hown (va_Nw.use rfl (hG.2.1 (.fieldLinkNest RX2 50 RX5 "MOST" "[I" RX5) (by decide +kernel))) (fun _ h9 => h9) dX2_hasRoomFor_20 ?_
      refine lv_iload_n hx hb dX2_hasRoomFor_23 rfl (lv_at hl 2 rfl) ?_
      obtain ⟨hin, hf⟩ := gI_use hf
      refine va_ti hx hb hG.2.2.2.1.2 hS hin rfl dX2_hasRoomFor_24 ?_
      refine lv_icmp_le (tgt := 30) hx hb dX2_hasRoomFor_25 (by decide) (fun hc => ?_) (fun hc => ?_)
      · have hf := if_t hc hf
        obtain ⟨y4, ey4⟩ : ∃ z : Int32, z = x2 + (1 : Int32) := ⟨_, rfl⟩
        have hf := nm_use ey4 hf
        refine lv_iinc (v := y4) (lv' := [(2, .int y4), (0, .ref q0), (1, .ref q1)]) hx hb dX2_hasRoomFor_30 hl (k := 2) rfl (by rw [ey4]; rfl) (by decide) rfl (fun ls hl => ?_)
        refine lv_goto (tgt := 2) hx hb dX2_hasRoomFor_33 (by decide) ?_
        exact ih y4 _ _ ls hf hP hD hS (lv_sub hl [1, 2, 0] rfl)
      · have hf := if_f hc hf
        refine lv_iconst (v := (0 : Int32)) hx hb dX2_hasRoomFor_28 (by decide) ?_
        cases hf
        exact rt_z C (Or.inl rfl) hP hD hS dX2_hasRoomFor_29
set_option maxHeartbeats 4000000 in
set_option maxRecDepth 100000 in
theorem tX2_hasRoomFor (l : Launch) (G : GX) (q0 : Nat) (q0_cell : Nat) (q0_top : Nat) (q1 : Nat) (q1_cell : Nat) (q1_top : Nat) (k0_top : Nat → Int32) (k1_top : Nat → Int32) (res : Int32) (hf : fX2_hasRoomFor k0_top k1_top = some res) : Ct l yX2_hasRoomFor wsX2_hasRoomFor rmX2_hasRoomFor G [.ref q0, .ref q1] (wdX2_hasRoomFor G q0 q0_cell q0_top q1 q1_cell q1_top k0_top k1_top) (wdX2_hasRoomFor G q0 q0_cell q0_top q1 q1_cell q1_top k0_top k1_top) (some (.int res)) := by
  refine Ct.of (cc := cX2_hasRoomFor) (nL := 3) (ret := (some .boolean)) (by decide) rfl (Nat.le_of_ble_eq_true rfl) rfl ?_
  intro p e s m below meth c A ls C hP hD hl
  obtain ⟨hx, hb, hml, hown, hts, hr, hlocks, hA, hG⟩ := id C
  have hS : va_S A s.heap s.heap [] := va_S.rf
  unfold fX2_hasRoomFor at hf
  refine lv_iconst (v := (1 : Int32)) hx hb dX2_hasRoomFor_0 (by decide) ?_
  refine lv_istore_n (lv' := [(2, .int (1 : Int32)), (0, .ref q0), (1, .ref q1)]) hx hb dX2_hasRoomFor_1 rfl hl (by decide) rfl (fun ls hl => ?_)
  exact wX2_hasRoomFor_2 C q0 q0_cell q0_top q1 q1_cell q1_top k0_top k1_top res fu (1 : Int32) _ _ ls hf hP hD hS (lv_sub hl [1, 2, 0] rfl)
abbrev wdX2_becomeProduct (G : GX) (q0 : Nat) (q0_cell : Nat) (q0_top : Nat) (q1 : Nat) (q1_cell : Nat) (q1_top : Nat) (q2 : Nat) (q2_cell : Nat) (q2_top : Nat) (k0_cell : Nat → Int64) (k1_cell : Nat → Int64) (k2_cell : Nat → Int64) : va_W := [(q0, .inr (2, [.ref q0_cell, .ref q0_top])), (q0_cell, .inl (G.2.2.1, 3024, .inr (.inl k0_cell))), (q1, .inr (2, [.ref q1_cell, .ref q1_top])), (q1_cell, .inl (G.2.2.1, 3024, .inr (.inl k1_cell))), (q2, .inr (2, [.ref q2_cell, .ref q2_top])), (q2_cell, .inl (G.2.2.1, 3024, .inr (.inl k2_cell)))]
abbrev rmX2_becomeProduct : Room := { frames := 2, cells := 0, slots := 0, locals := 44 }
abbrev glX2_becomeProduct (p : Program) (l : Launch) (e : Env) (s : State) (m : MethodId) (args : Array Value) (below : List Frame) (meth : Method) (c : Code) (G : GX) (A : Nat → Prop) (q0 : Nat) (q0_cell : Nat) (q0_top : Nat) (q1 : Nat) (q1_cell : Nat) (q1_top : Nat) (q2 : Nat) (q2_cell : Nat) (q2_top : Nat) (k1_cell : Nat → Int64) (k2_cell : Nat → Int64) (res : (Nat → Int64)) (H : Heap) (locs : List Loc) (pc : Nat) (ls : Array Slot) (st : List Value) : Prop := W p l e rmX2_becomeProduct s m args below meth c H locs 0 0 (MQ below (ctQ G A (wdX2_becomeProduct G q0 q0_cell q0_top q1 q1_cell q1_top q2 q2_cell q2_top res k1_cell k2_cell) none) args s 0 0 A) (F0 m pc ls st)
set_option maxRecDepth 20000 in
theorem mX2_becomeProduct_0 : Cond.fieldLink RX2 9 "SchubertDesk$Grid" "cell" "[J" ∈ wsX2_becomeProduct := by decide +kernel
set_option maxRecDepth 20000 in
theorem nX2_becomeProduct_X2 : ∀ w ∈ u_ws RX2 TX2 2, w ∈ wsX2_becomeProduct := by decide +kernel
set_option maxHeartbeats 4000000 in
set_option maxRecDepth 100000 in
theorem wX2_becomeProduct_31 {p : Program} {l : Launch} {e : Env} {s : State} {m : MethodId} {args : Array Value} {below : List Frame} {meth : Method} {c : Code} {G : GX} {A : Nat → Prop} (C : Cx p s m args meth c cX2_becomeProduct 7 none wsX2_becomeProduct RX2 G A) (q0 : Nat) (q0_cell : Nat) (q0_top : Nat) (q1 : Nat) (q1_cell : Nat) (q1_top : Nat) (q2 : Nat) (q2_cell : Nat) (q2_top : Nat) (k1_cell : Nat → Int64) (k2_cell : Nat → Int64) (res : (Nat → Int64)) (rec6 : (Nat → Int64) → Int32 → Option ((Nat → Int64))) (hr6 : ∀ (k0_cell : Nat → Int64) (x3 : Int32) (H : Heap) (locs : List Loc) (ls : Array Slot), rec6 k0_cell x3 = some res → va_P G.1 vwCl (wdX2_becomeProduct G q0 q0_cell q0_top q1 q1_cell q1_top q2 q2_cell q2_top k0_cell k1_cell k2_cell) H → va_D A (wdX2_becomeProduct G q0 q0_cell q0_top q1 q1_cell q1_top q2 q2_cell q2_top k0_cell k1_cell k2_cell) → va_S A s.heap H locs → lv_has ls 7 [(0, .ref q0), (1, .ref q1), (2, .ref q2), (3, .int x3)] → glX2_becomeProduct p l e s m args below meth c G A q0 q0_cell q0_top q1 q1_cell q1_top q2 q2_cell q2_top k1_cell k2_cell res H locs 6 ls []) (n : Nat) : ∀ (k0_cell : Nat → Int64) (x3 : Int32) (x4 : Int64) (x6 : Int32) (H : Heap) (locs : List Loc) (ls : Array Slot), fX2_becomeProduct_L31 k1_cell k2_cell rec6 n k0_cell x3 x4 x6 = some res → va_P G.1 vwCl (wdX2_becomeProduct G q0 q0_cell q0_top q1 q1_cell q1_top q2 q2_cell q2_top k0_cell k1_cell k2_cell) H → va_D A (wdX2_becomeProduct G q0 q0_cell q0_top q1 q1_cell q1_top q2 q2_cell q2_top k0_cell k1_cell k2_cell) → va_S A s.heap H locs → lv_has ls 7 [(0, .ref q0), (1, .ref q1), (2, .ref q2), (3, .int x3), (4, .long x4), (6, .int x6)] → glX2_becomeProduct p l e s m args below meth c G A q0 q0_cell q0_top q1 q1_cell q1_top q2 q2_cell q2_top k1_cell k2_cell res H locs 31 ls [] := by
  obtain ⟨hx, hb, hml, hown, hts, hr, hlocks, hA, hG⟩ := id C
  induction n with
  | zero => intro k0_cell x3 x4 x6 H locs ls hf hP hD hS hl; cases hf
  | succ n ih =>
    intro k0_cell x3 x4 x6 H locs ls hf hP hD hS hl
    simp only [fX2_becomeProduct_L31] at hf
    refine lv_iload hx hb dX2_becomeProduct_31 (lv_at hl 5 rfl) ?_
    refine lv_sipush (v := (3024 : Int32)) hx hb dX2_becomeProduct_33 (by decide) ?_
    refine lv_iload_n hx hb dX2_becomeProduct_36 rfl (lv_at hl 3 rfl) ?_
    refine lv_isub hx hb dX2_becomeProduct_37 ?_
    refine lv_icmp_ge (tgt := 69) hx hb dX2_becomeProduct_38 (by decide) (fun hc => ?_) (fun hc => ?_)
    · have hf := if_t hc hf
      obtain ⟨y1, ey1⟩ : ∃ z : Int32, z = x3 + (1 : Int32) := ⟨_, rfl⟩
      have hf := nm_use ey1 hf
      refine lv_iinc (v := y1) (lv' := [(3, .int y1), (0, .ref q0), (1, .ref q1), (2, .ref q2), (4, .long x4), (6, .int x6)]) hx hb dX2_becomeProduct_69 hl (k := 3) rfl (by rw [ey1]; rfl) (by decide) rfl (fun ls hl => ?_)
      refine lv_goto (tgt := 6) hx hb dX2_becomeProduct_72 (by decide) ?_
      exact hr6 k0_cell y1 _ _ ls hf hP hD hS (lv_sub hl [1, 2, 3, 0] rfl)
    · have hf := if_f hc hf
      refine lv_aload_n hx hb dX2_becomeProduct_41 rfl (lv_at hl 0 rfl) ?_
      refine va_get (D := G.1) (ci := 2) (v := .ref q0_cell) (C := RX2) (T := TX2) (N := 2) hx hb hts nX2_becomeProduct_X2 hown hG.1 hP 0 rfl rfl 0 (by decide) (hts _ mX2_becomeProduct_0) (fun _ h9 => h9) rfl dX2_becomeProduct_42 ?_
      refine lv_iload hx hb dX2_becomeProduct_45 (lv_at hl 5 rfl) ?_
      refine lv_iload_n hx hb dX2_becomeProduct_47 rfl (lv_at hl 3 rfl) ?_
      refine lv_iadd hx hb dX2_becomeProduct_48 ?_
      refine lv_dup2_11 hx hb dX2_becomeProduct_49 rfl rfl ?_
      obtain ⟨hin, hf⟩ := gJ_use hf
      refine va_lald hx hb hG.1 hP 1 1 rfl rfl hin dX2_becomeProduct_50 ?_
      refine lv_lload hx hb dX2_becomeProduct_51 (lv_at hl 4 rfl) ?_
      refine lv_aload_n hx hb dX2_becomeProduct_53 rfl (lv_at hl 1 rfl) ?_
      refine va_get (D := G.1) (ci := 2) (v := .ref q1_cell) (C := RX2) (T := TX2) (N := 2) hx hb hts nX2_becomeProduct_X2 hown hG.1 hP 2 rfl rfl 0 (by decide) (hts _ mX2_becomeProduct_0) (fun _ h9 => h9) rfl dX2_becomeProduct_54 ?_
      refine lv_iload hx hb dX2_becomeProduct_57 (lv_at hl 5 rfl) ?_
      obtain ⟨hin, hf⟩ := gJ_use hf
      refine va_lald hx hb hG.1 hP 3 1 rfl rfl hin dX2_becomeProduct_59 ?_
      refine lv_lmul hx hb dX2_becomeProduct_60 ?_
      refine lv_ladd hx hb dX2_becomeProduct_61 ?_
      obtain ⟨hin, hf⟩ := pJ_use hf
      refine va_last hx hb hG.1 hP hD hS 1 1 rfl rfl hin dX2_becomeProduct_62 (fun H locs hP hD hS => ?_)
      have hP : va_P G.1 vwCl (wdX2_becomeProduct G q0 q0_cell q0_top q1 q1_cell q1_top q2 q2_cell q2_top (vp_updL k0_cell ((x6 + x3)).toNatClampNeg ((k0_cell ((x6 + x3)).toNatClampNeg) + (x4 * (k1_cell (x6).toNatClampNeg)))) k1_cell k2_cell) H := hP
      have hD : va_D A (wdX2_becomeProduct G q0 q0_cell q0_top q1 q1_cell q1_top q2 q2_cell q2_top (vp_updL k0_cell ((x6 + x3)).toNatClampNeg ((k0_cell ((x6 + x3)).toNatClampNeg) + (x4 * (k1_cell (x6).toNatClampNeg)))) k1_cell k2_cell) := hD
      obtain ⟨y5, ey5⟩ : ∃ z : Int32, z = x6 + (1 : Int32) := ⟨_, rfl⟩
      have hf := nm_use ey5 hf
      refine lv_iinc (v := y5) (lv' := [(6, .int y5), (0, .ref q0), (1, .ref q1), (2, .ref q2), (3, .int x3), (4, .long x4)]) hx hb dX2_becomeProduct_63 hl (k := 5) rfl (by rw [ey5]; rfl) (by decide) rfl (fun ls hl => ?_)
      refine lv_goto (tgt := 31) hx hb dX2_becomeProduct_66 (by decide) ?_
      exact ih (vp_updL k0_cell ((x6 + x3)).toNatClampNeg ((k0_cell ((x6 + x3)).toNatClampNeg) + (x4 * (k1_cell (x6).toNatClampNeg)))) x3 x4 y5 _ _ ls hf hP hD hS (lv_sub hl [1, 2, 3, 4, 5, 0] rfl)
set_option maxHeartbeats 4000000 in
set_option maxRecDepth 100000 in
theorem wX2_becomeProduct_6 {p : Program} {l : Launch} {e : Env} {s : State} {m : MethodId} {args : Array Value} {below : List Frame} {meth : Method} {c : Code} {G : GX} {A : Nat → Prop} (C : Cx p s m args meth c cX2_becomeProduct 7 none wsX2_becomeProduct RX2 G A) (q0 : Nat) (q0_cell : Nat) (q0_top : Nat) (q1 : Nat) (q1_cell : Nat) (q1_top : Nat) (q2 : Nat) (q2_cell : Nat) (q2_top : Nat) (k1_cell : Nat → Int64) (k2_cell : Nat → Int64) (res : (Nat → Int64)) (n : Nat) : ∀ (k0_cell : Nat → Int64) (x3 : Int32) (H : Heap) (locs : List Loc) (ls : Array Slot), fX2_becomeProduct_L6 k1_cell k2_cell n k0_cell x3 = some res → va_P G.1 vwCl (wdX2_becomeProduct G q0 q0_cell q0_top q1 q1_cell q1_top q2 q2_cell q2_top k0_cell k1_cell k2_cell) H → va_D A (wdX2_becomeProduct G q0 q0_cell q0_top q1 q1_cell q1_top q2 q2_cell q2_top k0_cell k1_cell k2_cell) → va_S A s.heap H locs → lv_has ls 7 [(0, .ref q0), (1, .ref q1), (2, .ref q2), (3, .int x3)] → glX2_becomeProduct p l e s m args below meth c G A q0 q0_cell q0_top q1 q1_cell q1_top q2 q2_cell q2_top k1_cell k2_cell res H locs 6 ls [] := by
  obtain ⟨hx, hb, hml, hown, hts, hr, hlocks, hA, hG⟩ := id C
  induction n with
  | zero => intro k0_cell x3 H locs ls hf hP hD hS hl; cases hf
  | succ n ih =>
    intro k0_cell x3 H locs ls hf hP hD hS hl
    simp only [fX2_becomeProduct_L6] at hf
    refine lv_iload_n hx hb dX2_becomeProduct_6 rfl (lv_at hl 3 rfl) ?_
    refine lv_sipush (v := (3024 : Int32)) hx hb dX2_becomeProduct_7 (by decide) ?_
    refine lv_icmp_ge (tgt := 75) hx hb dX2_becomeProduct_10 (by decide) (fun hc => ?_) (fun hc => ?_)
    · have hf := if_t hc hf
      cases hf
      exact rt_v C hP hD hS dX2_becomeProduct_75
    · have hf := if_f hc hf
      refine lv_aload_n hx hb dX2_becomeProduct_13 rfl (lv_at hl 2 rfl) ?_
      refine va_get (D := G.1) (ci := 2) (v := .ref q2_cell) (C := RX2) (T := TX2) (N := 2) hx hb hts nX2_becomeProduct_X2 hown hG.1 hP 4 rfl rfl 0 (by decide) (hts _ mX2_becomeProduct_0) (fun _ h9 => h9) rfl dX2_becomeProduct_14 ?_
      refine lv_iload_n hx hb dX2_becomeProduct_17 rfl (lv_at hl 3 rfl) ?_
      obtain ⟨hin, hf⟩ := gJ_use hf
      refine va_lald hx hb hG.1 hP 5 1 rfl rfl hin dX2_becomeProduct_18 ?_
      refine lv_topl (fun y7 ey7 => ?_)
      have hf := nm_use ey7 hf
      refine lv_lstore (lv' := [(4, .long y7), (0, .ref q0), (1, .ref q1), (2, .ref q2), (3, .int x3)]) hx hb dX2_becomeProduct_19 hl (by decide) rfl (fun ls hl => ?_)
      refine lv_lload hx hb dX2_becomeProduct_21 (lv_at hl 0 rfl) ?_
      refine lv_lconst (v := (0 : Int64)) hx hb dX2_becomeProduct_23 (by decide) ?_
      refine W.lcmp hx hb dX2_becomeProduct_24 ?_
      refine lv_if_eq (tgt := 69) hx hb dX2_becomeProduct_25 (by decide) (fun hc => ?_) (fun hc => ?_)
      · have hf := if_t hc hf
        obtain ⟨y8, ey8⟩ : ∃ z : Int32, z = x3 + (1 : Int32) := ⟨_, rfl⟩
        have hf := nm_use ey8 hf
        refine lv_iinc (v := y8) (lv' := [(3, .int y8), (4, .long y7), (0, .ref q0), (1, .ref q1), (2, .ref q2)]) hx hb dX2_becomeProduct_69 hl (k := 4) rfl (by rw [ey8]; rfl) (by decide) rfl (fun ls hl => ?_)
        refine lv_goto (tgt := 6) hx hb dX2_becomeProduct_72 (by decide) ?_
        exact ih k0_cell y8 _ _ ls hf hP hD hS (lv_sub hl [2, 3, 4, 0] rfl)
      · have hf := if_f hc hf
        refine lv_iconst (v := (0 : Int32)) hx hb dX2_becomeProduct_28 (by decide) ?_
        refine lv_istore (lv' := [(6, .int (0 : Int32)), (4, .long y7), (0, .ref q0), (1, .ref q1), (2, .ref q2), (3, .int x3)]) hx hb dX2_becomeProduct_29 hl (by decide) rfl (fun ls hl => ?_)
        exact wX2_becomeProduct_31 C q0 q0_cell q0_top q1 q1_cell q1_top q2 q2_cell q2_top k1_cell k2_cell res (fX2_becomeProduct_L6 k1_cell k2_cell n) ih fu k0_cell x3 y7 (0 : Int32) _ _ ls hf hP hD hS (lv_sub hl [2, 3, 4, 5, 1, 0] rfl)
set_option maxHeartbeats 4000000 in
set_option maxRecDepth 100000 in
theorem tX2_becomeProduct (l : Launch) (G : GX) (q0 : Nat) (q0_cell : Nat) (q0_top : Nat) (q1 : Nat) (q1_cell : Nat) (q1_top : Nat) (q2 : Nat) (q2_cell : Nat) (q2_top : Nat) (k0_cell : Nat → Int64) (k1_cell : Nat → Int64) (k2_cell : Nat → Int64) (res : (Nat → Int64)) (hf : fX2_becomeProduct k0_cell k1_cell k2_cell = some res) : Ct l yX2_becomeProduct wsX2_becomeProduct rmX2_becomeProduct G [.ref q0, .ref q1, .ref q2] (wdX2_becomeProduct G q0 q0_cell q0_top q1 q1_cell q1_top q2 q2_cell q2_top k0_cell k1_cell k2_cell) (wdX2_becomeProduct G q0 q0_cell q0_top q1 q1_cell q1_top q2 q2_cell q2_top res k1_cell k2_cell) none := by
  refine Ct.of (cc := cX2_becomeProduct) (nL := 7) (ret := none) (by decide) rfl (Nat.le_of_ble_eq_true rfl) rfl ?_
  intro p e s m below meth c A ls C hP hD hl
  obtain ⟨hx, hb, hml, hown, hts, hr, hlocks, hA, hG⟩ := id C
  have hS : va_S A s.heap s.heap [] := va_S.rf
  unfold fX2_becomeProduct at hf
  refine lv_aload_n hx hb dX2_becomeProduct_0 rfl (lv_at hl 0 rfl) ?_
  obtain ⟨r9, hr9, hf⟩ := bd_use hf
  refine cl_V (wn := (wdX2_becomeProduct G q0 q0_cell q0_top q1 q1_cell q1_top q2 q2_cell q2_top r9 k1_cell k2_cell)) (st1 := []) C hP hD hS (tX2_clear l G q0 q0_cell q0_top k0_cell r9 hr9) (cwV 0 hts gX2_becomeProduct_X2_clear rfl rfl rfl (by decide +kernel) ⟨Nat.le_of_ble_eq_true rfl, Nat.le_of_ble_eq_true rfl⟩) [0, 1] [2, 3, 4, 5] [4, 5, 0, 1, 2, 3] rfl rfl rfl rfl (by decide) rfl rfl (ci := 2) (q0 := 0) rfl rfl rfl rfl hl.1 rfl rfl (Nat.le_of_ble_eq_true rfl) dX2_becomeProduct_1 (fun H locs hP hD hS => ?_)
  refine lv_iconst (v := (0 : Int32)) hx hb dX2_becomeProduct_4 (by decide) ?_
  refine lv_istore_n (lv' := [(3, .int (0 : Int32)), (0, .ref q0), (1, .ref q1), (2, .ref q2)]) hx hb dX2_becomeProduct_5 rfl hl (by decide) rfl (fun ls hl => ?_)
  exact wX2_becomeProduct_6 C q0 q0_cell q0_top q1 q1_cell q1_top q2 q2_cell q2_top k1_cell k2_cell res fu r9 (0 : Int32) _ _ ls hf hP hD hS (lv_sub hl [1, 2, 3, 0] rfl)
abbrev wdX2_valueOfLine (G : GX) (q0 : Nat) (q0_cell : Nat) (q0_top : Nat) (k0_cell : Nat → Int64) : va_W := [(q0, .inr (2, [.ref q0_cell, .ref q0_top])), (q0_cell, .inl (G.2.2.1, 3024, .inr (.inl k0_cell)))]
abbrev rmX2_valueOfLine : Room := { frames := 1, cells := 0, slots := 0, locals := 21 }
abbrev glX2_valueOfLine (p : Program) (l : Launch) (e : Env) (s : State) (m : MethodId) (args : Array Value) (below : List Frame) (meth : Method) (c : Code) (G : GX) (A : Nat → Prop) (q0 : Nat) (q0_cell : Nat) (q0_top : Nat) (k0_cell : Nat → Int64) (res : Int64) (H : Heap) (locs : List Loc) (pc : Nat) (ls : Array Slot) (st : List Value) : Prop := W p l e rmX2_valueOfLine s m args below meth c H locs 0 0 (MQ below (ctQ G A (wdX2_valueOfLine G q0 q0_cell q0_top k0_cell) (some (.long res))) args s 0 0 A) (F0 m pc ls st)
set_option maxHeartbeats 4000000 in
set_option maxRecDepth 100000 in
theorem wX2_valueOfLine_9 {p : Program} {l : Launch} {e : Env} {s : State} {m : MethodId} {args : Array Value} {below : List Frame} {meth : Method} {c : Code} {G : GX} {A : Nat → Prop} (C : Cx p s m args meth c cX2_valueOfLine 6 (some .long) wsX2_valueOfLine RX2 G A) (q0 : Nat) (q0_cell : Nat) (q0_top : Nat) (k0_cell : Nat → Int64) (p1 : Int32) (p2 : Int32) (res : Int64) (n : Nat) : ∀ (x3 : Int64) (x5 : Int32) (H : Heap) (locs : List Loc) (ls : Array Slot), fX2_valueOfLine_L9 k0_cell p1 p2 n x3 x5 = some res → va_P G.1 vwCl (wdX2_valueOfLine G q0 q0_cell q0_top k0_cell) H → va_D A (wdX2_valueOfLine G q0 q0_cell q0_top k0_cell) → va_S A s.heap H locs → lv_has ls 6 [(0, .ref q0), (1, .int p1), (2, .int p2), (3, .long x3), (5, .int x5)] → glX2_valueOfLine p l e s m args below meth c G A q0 q0_cell q0_top k0_cell res H locs 9 ls [] := by
  obtain ⟨hx, hb, hml, hown, hts, hr, hlocks, hA, hG⟩ := id C
  induction n with
  | zero => intro x3 x5 H locs ls hf hP hD hS hl; cases hf
  | succ n ih =>
    intro x3 x5 H locs ls hf hP hD hS hl
    simp only [fX2_valueOfLine_L9] at hf
    refine lv_iload hx hb dX2_valueOfLine_9 (lv_at hl 4 rfl) ?_
    refine lv_if_lt (tgt := 34) hx hb dX2_valueOfLine_11 (by decide) (fun hc => ?_) (fun hc => ?_)
    · have hf := if_t hc hf
      refine lv_lload_n hx hb dX2_valueOfLine_34 rfl (lv_at hl 3 rfl) ?_
      cases hf
      exact rt_l C hP hD hS dX2_valueOfLine_35
    · have hf := if_f hc hf
      refine lv_lload_n hx hb dX2_valueOfLine_14 rfl (lv_at hl 3 rfl) ?_
      refine lv_iload_n hx hb dX2_valueOfLine_15 rfl (lv_at hl 2 rfl) ?_
      refine lv_i2l hx hb dX2_valueOfLine_16 rfl ?_
      refine lv_lmul hx hb dX2_valueOfLine_17 ?_
      refine lv_aload_n hx hb dX2_valueOfLine_18 rfl (lv_at hl 0 rfl) ?_
      refine lv_iload_n hx hb dX2_valueOfLine_19 rfl (lv_at hl 1 rfl) ?_
      refine lv_iload hx hb dX2_valueOfLine_20 (lv_at hl 4 rfl) ?_
      refine lv_iadd hx hb dX2_valueOfLine_22 ?_
      obtain ⟨r1, hr1, hf⟩ := bd_use hf
      refine cl_V (wn := (wdX2_valueOfLine G q0 q0_cell q0_top k0_cell)) (st1 := [.long r1, .long (x3 * (p2).toInt64)]) C hP hD hS (tX2_at l G q0 q0_cell q0_top k0_cell (p1 + x5) r1 hr1) (cwV 1 hts gX2_valueOfLine_X2_at rfl rfl rfl (by decide +kernel) ⟨Nat.le_of_ble_eq_true rfl, Nat.le_of_ble_eq_true rfl⟩) [0, 1] [] [0, 1] rfl rfl rfl rfl (by decide) rfl rfl (ci := 2) (q0 := 0) rfl rfl rfl rfl hl.1 rfl rfl (Nat.le_of_ble_eq_true rfl) dX2_valueOfLine_23 (fun H locs hP hD hS => ?_)
      refine lv_ladd hx hb dX2_valueOfLine_26 ?_
      refine lv_topl (fun y2 ey2 => ?_)
      have hf := nm_use ey2 hf
      refine lv_lstore_n (lv' := [(3, .long y2), (0, .ref q0), (1, .int p1), (2, .int p2), (5, .int x5)]) hx hb dX2_valueOfLine_27 rfl hl (by decide) rfl (fun ls hl => ?_)
      obtain ⟨y3, ey3⟩ : ∃ z : Int32, z = x5 + (-1 : Int32) := ⟨_, rfl⟩
      have hf := nm_use ey3 hf
      refine lv_iinc (v := y3) (lv' := [(5, .int y3), (3, .long y2), (0, .ref q0), (1, .int p1), (2, .int p2)]) hx hb dX2_valueOfLine_28 hl (k := 4) rfl (by rw [ey3]; rfl) (by decide) rfl (fun ls hl => ?_)
      refine lv_goto (tgt := 9) hx hb dX2_valueOfLine_31 (by decide) ?_
      exact ih y2 y3 _ _ ls hf hP hD hS (lv_sub hl [2, 3, 4, 1, 0] rfl)
set_option maxHeartbeats 4000000 in
set_option maxRecDepth 100000 in
theorem tX2_valueOfLine (l : Launch) (G : GX) (q0 : Nat) (q0_cell : Nat) (q0_top : Nat) (k0_cell : Nat → Int64) (p1 : Int32) (p2 : Int32) (res : Int64) (hf : fX2_valueOfLine k0_cell p1 p2 = some res) : Ct l yX2_valueOfLine wsX2_valueOfLine rmX2_valueOfLine G [.ref q0, .int p1, .int p2] (wdX2_valueOfLine G q0 q0_cell q0_top k0_cell) (wdX2_valueOfLine G q0 q0_cell q0_top k0_cell) (some (.long res)) := by
  refine Ct.of (cc := cX2_valueOfLine) (nL := 6) (ret := (some .long)) (by decide) rfl (Nat.le_of_ble_eq_true rfl) rfl ?_
  intro p e s m below meth c A ls C hP hD hl
  obtain ⟨hx, hb, hml, hown, hts, hr, hlocks, hA, hG⟩ := id C
  have hS : va_S A s.heap s.heap [] := va_S.rf
  unfold fX2_valueOfLine at hf
  refine lv_lconst (v := (0 : Int64)) hx hb dX2_valueOfLine_0 (by decide) ?_
  refine lv_lstore_n (lv' := [(3, .long (0 : Int64)), (0, .ref q0), (1, .int p1), (2, .int p2)]) hx hb dX2_valueOfLine_1 rfl hl (by decide) rfl (fun ls hl => ?_)
  refine va_getsN hx hb hG.2.2.2.1.1 hS hown (va_Nw.use rfl (hG.2.1 (.fieldLinkNest RX2 50 RX5 "MOST" "[I" RX5) (by decide +kernel))) (fun _ h9 => h9) dX2_valueOfLine_2 ?_
  refine lv_iconst (v := (1 : Int32)) hx hb dX2_valueOfLine_5 (by decide) ?_
  obtain ⟨hin, hf⟩ := gI_use hf
  refine va_ti hx hb hG.2.2.2.1.2 hS hin rfl dX2_valueOfLine_6 ?_
  refine lv_topi (fun y5 ey5 => ?_)
  have hf := nm_use ey5 hf
  refine lv_istore (lv' := [(5, .int y5), (3, .long (0 : Int64)), (0, .ref q0), (1, .int p1), (2, .int p2)]) hx hb dX2_valueOfLine_7 hl (by decide) rfl (fun ls hl => ?_)
  exact wX2_valueOfLine_9 C q0 q0_cell q0_top k0_cell p1 p2 res fu (0 : Int64) y5 _ _ ls hf hP hD hS (lv_sub hl [2, 3, 4, 1, 0] rfl)
