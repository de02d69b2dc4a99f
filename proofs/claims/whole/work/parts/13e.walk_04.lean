abbrev wdX2_valueAt (G : GX) (q0 : Nat) (q0_cell : Nat) (q0_top : Nat) (k0_cell : Nat → Int64) : va_W := [(q0, .inr (2, [.ref q0_cell, .ref q0_top])), (q0_cell, .inl (G.2.2.1, 3024, .inr (.inl k0_cell)))]
abbrev rmX2_valueAt : Room := { frames := 2, cells := 0, slots := 0, locals := 46 }
abbrev glX2_valueAt (p : Program) (l : Launch) (e : Env) (s : State) (m : MethodId) (args : Array Value) (below : List Frame) (meth : Method) (c : Code) (G : GX) (A : Nat → Prop) (q0 : Nat) (q0_cell : Nat) (q0_top : Nat) (k0_cell : Nat → Int64) (res : Int64) (H : Heap) (locs : List Loc) (pc : Nat) (ls : Array Slot) (st : List Value) : Prop := W p l e rmX2_valueAt s m args below meth c H locs 0 0 (MQ below (ctQ G A (wdX2_valueAt G q0 q0_cell q0_top k0_cell) (some (.long res))) args s 0 0 A) (F0 m pc ls st)
set_option maxRecDepth 20000 in
theorem mX2_valueAt_0 : Cond.initialized RX5 ∈ wsX2_valueAt := by decide +kernel
set_option maxRecDepth 20000 in
theorem mX2_valueAt_1 : Cond.static yX5_cellOf ∈ wsX2_valueAt := by decide +kernel
set_option maxHeartbeats 4000000 in
set_option maxRecDepth 100000 in
theorem wX2_valueAt_40 {p : Program} {l : Launch} {e : Env} {s : State} {m : MethodId} {args : Array Value} {below : List Frame} {meth : Method} {c : Code} {G : GX} {A : Nat → Prop} (C : Cx p s m args meth c cX2_valueAt 14 (some .long) wsX2_valueAt RX2 G A) (q0 : Nat) (q0_cell : Nat) (q0_top : Nat) (k0_cell : Nat → Int64) (p1 : Int32) (p2 : Int32) (p3 : Int32) (p4 : Int32) (res : Int64) (rec10 : Int64 → Int32 → Option (Int64)) (hr10 : ∀ (x5 : Int64) (x7 : Int32) (H : Heap) (locs : List Loc) (ls : Array Slot), rec10 x5 x7 = some res → va_P G.1 vwCl (wdX2_valueAt G q0 q0_cell q0_top k0_cell) H → va_D A (wdX2_valueAt G q0 q0_cell q0_top k0_cell) → va_S A s.heap H locs → lv_has ls 14 [(0, .ref q0), (1, .int p1), (2, .int p2), (3, .int p3), (4, .int p4), (5, .long x5), (7, .int x7)] → glX2_valueAt p l e s m args below meth c G A q0 q0_cell q0_top k0_cell res H locs 10 ls []) (rec25 : Int64 → Int32 → Int64 → Int32 → Option (Int64)) (hr25 : ∀ (x5 : Int64) (x7 : Int32) (x8 : Int64) (x10 : Int32) (H : Heap) (locs : List Loc) (ls : Array Slot), rec25 x5 x7 x8 x10 = some res → va_P G.1 vwCl (wdX2_valueAt G q0 q0_cell q0_top k0_cell) H → va_D A (wdX2_valueAt G q0 q0_cell q0_top k0_cell) → va_S A s.heap H locs → lv_has ls 14 [(0, .ref q0), (1, .int p1), (2, .int p2), (3, .int p3), (4, .int p4), (5, .long x5), (7, .int x7), (8, .long x8), (10, .int x10)] → glX2_valueAt p l e s m args below meth c G A q0 q0_cell q0_top k0_cell res H locs 25 ls []) (n : Nat) : ∀ (x5 : Int64) (x7 : Int32) (x8 : Int64) (x10 : Int32) (x11 : Int64) (x13 : Int32) (H : Heap) (locs : List Loc) (ls : Array Slot), fX2_valueAt_L40 k0_cell p1 p2 p3 p4 rec10 rec25 n x5 x7 x8 x10 x11 x13 = some res → va_P G.1 vwCl (wdX2_valueAt G q0 q0_cell q0_top k0_cell) H → va_D A (wdX2_valueAt G q0 q0_cell q0_top k0_cell) → va_S A s.heap H locs → lv_has ls 14 [(0, .ref q0), (1, .int p1), (2, .int p2), (3, .int p3), (4, .int p4), (5, .long x5), (7, .int x7), (8, .long x8), (10, .int x10), (11, .long x11), (13, .int x13)] → glX2_valueAt p l e s m args below meth c G A q0 q0_cell q0_top k0_cell res H locs 40 ls [] := by
  obtain ⟨hx, hb, hml, hown, hts, hr, hlocks, hA, hG⟩ := id C
  induction n with
  | zero => intro x5 x7 x8 x10 x11 x13 H locs ls hf hP hD hS hl; cases hf
  | succ n ih =>
    intro x5 x7 x8 x10 x11 x13 H locs ls hf hP hD hS hl
    simp only [fX2_valueAt_L40] at hf
    refine lv_iload hx hb dX2_valueAt_40 (lv_at hl 10 rfl) ?_
    refine lv_if_lt (tgt := 74) hx hb dX2_valueAt_42 (by decide) (fun hc => ?_) (fun hc => ?_)
    · have hf := if_t hc hf
      refine lv_lload hx hb dX2_valueAt_74 (lv_at hl 7 rfl) ?_
      refine lv_iload_n hx hb dX2_valueAt_76 rfl (lv_at hl 3 rfl) ?_
      refine lv_i2l hx hb dX2_valueAt_77 rfl ?_
      refine lv_lmul hx hb dX2_valueAt_78 ?_
      refine lv_lload hx hb dX2_valueAt_79 (lv_at hl 9 rfl) ?_
      refine lv_ladd hx hb dX2_valueAt_81 ?_
      refine lv_topl (fun y1 ey1 => ?_)
      have hf := nm_use ey1 hf
      refine lv_lstore (lv' := [(8, .long y1), (0, .ref q0), (1, .int p1), (2, .int p2), (3, .int p3), (4, .int p4), (5, .long x5), (7, .int x7), (10, .int x10), (11, .long x11), (13, .int x13)]) hx hb dX2_valueAt_82 hl (by decide) rfl (fun ls hl => ?_)
      obtain ⟨y2, ey2⟩ : ∃ z : Int32, z = x10 + (-1 : Int32) := ⟨_, rfl⟩
      have hf := nm_use ey2 hf
      refine lv_iinc (v := y2) (lv' := [(10, .int y2), (8, .long y1), (0, .ref q0), (1, .int p1), (2, .int p2), (3, .int p3), (4, .int p4), (5, .long x5), (7, .int x7), (11, .long x11), (13, .int x13)]) hx hb dX2_valueAt_84 hl (k := 8) rfl (by rw [ey2]; rfl) (by decide) rfl (fun ls hl => ?_)
      refine lv_goto (tgt := 25) hx hb dX2_valueAt_87 (by decide) ?_
      exact hr25 x5 x7 y1 y2 _ _ ls hf hP hD hS (lv_sub hl [2, 3, 4, 5, 6, 7, 8, 1, 0] rfl)
    · have hf := if_f hc hf
      refine lv_lload hx hb dX2_valueAt_45 (lv_at hl 9 rfl) ?_
      refine lv_iload_n hx hb dX2_valueAt_47 rfl (lv_at hl 2 rfl) ?_
      refine lv_i2l hx hb dX2_valueAt_48 rfl ?_
      refine lv_lmul hx hb dX2_valueAt_49 ?_
      refine lv_aload_n hx hb dX2_valueAt_50 rfl (lv_at hl 0 rfl) ?_
      refine lv_iconst (v := (0 : Int32)) hx hb dX2_valueAt_51 (by decide) ?_
      refine lv_iload hx hb dX2_valueAt_52 (lv_at hl 10 rfl) ?_
      refine lv_iload hx hb dX2_valueAt_54 (lv_at hl 8 rfl) ?_
      refine lv_iload hx hb dX2_valueAt_56 (lv_at hl 6 rfl) ?_
      obtain ⟨r3, hr3, hf⟩ := bd_use hf
      refine cl_SN (host := RX5) (wn := (wdX2_valueAt G q0 q0_cell q0_top k0_cell)) (st1 := [.int r3, .ref q0, .long (x11 * (p2).toInt64)]) C hP hD hS (tX5_cellOf l G (0 : Int32) x13 x10 x7 r3 hr3) ⟨va_cnB 4 hts gX2_valueAt_X5_cellOf_n53 rfl rfl rfl (hG.2.1 (.methodLinkNest RX2 53 yX5_cellOf RX5) (by decide +kernel)) (hts _ mX2_valueAt_0) (by decide +kernel) ⟨Nat.le_of_ble_eq_true rfl, Nat.le_of_ble_eq_true rfl⟩, (hts _ mX2_valueAt_1), trivial⟩ [] [0, 1] [0, 1] rfl rfl rfl rfl (by decide) rfl rfl rfl hl.1 rfl rfl (Nat.le_of_ble_eq_true rfl) dX2_valueAt_58 (fun H locs hP hD hS => ?_)
      refine lv_iload_n hx hb dX2_valueAt_61 rfl (lv_at hl 1 rfl) ?_
      obtain ⟨r4, hr4, hf⟩ := bd_use hf
      refine cl_V (wn := (wdX2_valueAt G q0 q0_cell q0_top k0_cell)) (st1 := [.long r4, .long (x11 * (p2).toInt64)]) C hP hD hS (tX2_valueOfLine l G q0 q0_cell q0_top k0_cell r3 p1 r4 hr4) (cwV 2 hts gX2_valueAt_X2_valueOfLine rfl rfl rfl (by decide +kernel) ⟨Nat.le_of_ble_eq_true rfl, Nat.le_of_ble_eq_true rfl⟩) [0, 1] [] [0, 1] rfl rfl rfl rfl (by decide) rfl rfl (ci := 2) (q0 := 0) rfl rfl rfl rfl hl.1 rfl rfl (Nat.le_of_ble_eq_true rfl) dX2_valueAt_62 (fun H locs hP hD hS => ?_)
      refine lv_ladd hx hb dX2_valueAt_65 ?_
      refine lv_topl (fun y5 ey5 => ?_)
      have hf := nm_use ey5 hf
      refine lv_lstore (lv' := [(11, .long y5), (0, .ref q0), (1, .int p1), (2, .int p2), (3, .int p3), (4, .int p4), (5, .long x5), (7, .int x7), (8, .long x8), (10, .int x10), (13, .int x13)]) hx hb dX2_valueAt_66 hl (by decide) rfl (fun ls hl => ?_)
      obtain ⟨y6, ey6⟩ : ∃ z : Int32, z = x13 + (-1 : Int32) := ⟨_, rfl⟩
      have hf := nm_use ey6 hf
      refine lv_iinc (v := y6) (lv' := [(13, .int y6), (11, .long y5), (0, .ref q0), (1, .int p1), (2, .int p2), (3, .int p3), (4, .int p4), (5, .long x5), (7, .int x7), (8, .long x8), (10, .int x10)]) hx hb dX2_valueAt_68 hl (k := 10) rfl (by rw [ey6]; rfl) (by decide) rfl (fun ls hl => ?_)
      refine lv_goto (tgt := 40) hx hb dX2_valueAt_71 (by decide) ?_
      exact ih x5 x7 x8 x10 y5 y6 _ _ ls hf hP hD hS (lv_sub hl [2, 3, 4, 5, 6, 7, 8, 9, 10, 1, 0] rfl)
set_option maxHeartbeats 4000000 in
set_option maxRecDepth 100000 in
theorem wX2_valueAt_25 {p : Program} {l : Launch} {e : Env} {s : State} {m : MethodId} {args : Array Value} {below : List Frame} {meth : Method} {c : Code} {G : GX} {A : Nat → Prop} (C : Cx p s m args meth c cX2_valueAt 14 (some .long) wsX2_valueAt RX2 G A) (q0 : Nat) (q0_cell : Nat) (q0_top : Nat) (k0_cell : Nat → Int64) (p1 : Int32) (p2 : Int32) (p3 : Int32) (p4 : Int32) (res : Int64) (rec10 : Int64 → Int32 → Option (Int64)) (hr10 : ∀ (x5 : Int64) (x7 : Int32) (H : Heap) (locs : List Loc) (ls : Array Slot), rec10 x5 x7 = some res → va_P G.1 vwCl (wdX2_valueAt G q0 q0_cell q0_top k0_cell) H → va_D A (wdX2_valueAt G q0 q0_cell q0_top k0_cell) → va_S A s.heap H locs → lv_has ls 14 [(0, .ref q0), (1, .int p1), (2, .int p2), (3, .int p3), (4, .int p4), (5, .long x5), (7, .int x7)] → glX2_valueAt p l e s m args below meth c G A q0 q0_cell q0_top k0_cell res H locs 10 ls []) (n : Nat) : ∀ (x5 : Int64) (x7 : Int32) (x8 : Int64) (x10 : Int32) (H : Heap) (locs : List Loc) (ls : Array Slot), fX2_valueAt_L25 k0_cell p1 p2 p3 p4 rec10 n x5 x7 x8 x10 = some res → va_P G.1 vwCl (wdX2_valueAt G q0 q0_cell q0_top k0_cell) H → va_D A (wdX2_valueAt G q0 q0_cell q0_top k0_cell) → va_S A s.heap H locs → lv_has ls 14 [(0, .ref q0), (1, .int p1), (2, .int p2), (3, .int p3), (4, .int p4), (5, .long x5), (7, .int x7), (8, .long x8), (10, .int x10)] → glX2_valueAt p l e s m args below meth c G A q0 q0_cell q0_top k0_cell res H locs 25 ls [] := by
  obtain ⟨hx, hb, hml, hown, hts, hr, hlocks, hA, hG⟩ := id C
  induction n with
  | zero => intro x5 x7 x8 x10 H locs ls hf hP hD hS hl; cases hf
  | succ n ih =>
    intro x5 x7 x8 x10 H locs ls hf hP hD hS hl
    simp only [fX2_valueAt_L25] at hf
    refine lv_iload hx hb dX2_valueAt_25 (lv_at hl 8 rfl) ?_
    refine lv_if_lt (tgt := 90) hx hb dX2_valueAt_27 (by decide) (fun hc => ?_) (fun hc => ?_)
    · have hf := if_t hc hf
      refine lv_lload hx hb dX2_valueAt_90 (lv_at hl 5 rfl) ?_
      refine lv_iload hx hb dX2_valueAt_92 (lv_at hl 4 rfl) ?_
      refine lv_i2l hx hb dX2_valueAt_94 rfl ?_
      refine lv_lmul hx hb dX2_valueAt_95 ?_
      refine lv_lload hx hb dX2_valueAt_96 (lv_at hl 7 rfl) ?_
      refine lv_ladd hx hb dX2_valueAt_98 ?_
      refine lv_topl (fun y7 ey7 => ?_)
      have hf := nm_use ey7 hf
      refine lv_lstore (lv' := [(5, .long y7), (0, .ref q0), (1, .int p1), (2, .int p2), (3, .int p3), (4, .int p4), (7, .int x7), (8, .long x8), (10, .int x10)]) hx hb dX2_valueAt_99 hl (by decide) rfl (fun ls hl => ?_)
      obtain ⟨y8, ey8⟩ : ∃ z : Int32, z = x7 + (-1 : Int32) := ⟨_, rfl⟩
      have hf := nm_use ey8 hf
      refine lv_iinc (v := y8) (lv' := [(7, .int y8), (5, .long y7), (0, .ref q0), (1, .int p1), (2, .int p2), (3, .int p3), (4, .int p4), (8, .long x8), (10, .int x10)]) hx hb dX2_valueAt_101 hl (k := 6) rfl (by rw [ey8]; rfl) (by decide) rfl (fun ls hl => ?_)
      refine lv_goto (tgt := 10) hx hb dX2_valueAt_104 (by decide) ?_
      exact hr10 y7 y8 _ _ ls hf hP hD hS (lv_sub hl [2, 3, 4, 5, 6, 1, 0] rfl)
    · have hf := if_f hc hf
      refine lv_lconst (v := (0 : Int64)) hx hb dX2_valueAt_30 (by decide) ?_
      refine lv_lstore (lv' := [(11, .long (0 : Int64)), (0, .ref q0), (1, .int p1), (2, .int p2), (3, .int p3), (4, .int p4), (5, .long x5), (7, .int x7), (8, .long x8), (10, .int x10)]) hx hb dX2_valueAt_31 hl (by decide) rfl (fun ls hl => ?_)
      refine va_getsN hx hb hG.2.2.2.1.1 hS hown (va_Nw.use rfl (hG.2.1 (.fieldLinkNest RX2 50 RX5 "MOST" "[I" RX5) (by decide +kernel))) (fun _ h9 => h9) dX2_valueAt_33 ?_
      refine lv_iconst (v := (2 : Int32)) hx hb dX2_valueAt_36 (by decide) ?_
      obtain ⟨hin, hf⟩ := gI_use hf
      refine va_ti hx hb hG.2.2.2.1.2 hS hin rfl dX2_valueAt_37 ?_
      refine lv_topi (fun y10 ey10 => ?_)
      have hf := nm_use ey10 hf
      refine lv_istore (lv' := [(13, .int y10), (11, .long (0 : Int64)), (0, .ref q0), (1, .int p1), (2, .int p2), (3, .int p3), (4, .int p4), (5, .long x5), (7, .int x7), (8, .long x8), (10, .int x10)]) hx hb dX2_valueAt_38 hl (by decide) rfl (fun ls hl => ?_)
      exact wX2_valueAt_40 C q0 q0_cell q0_top k0_cell p1 p2 p3 p4 res rec10 hr10 (fX2_valueAt_L25 k0_cell p1 p2 p3 p4 rec10 n) ih fu x5 x7 x8 x10 (0 : Int64) y10 _ _ ls hf hP hD hS (lv_sub hl [2, 3, 4, 5, 6, 7, 8, 9, 10, 1, 0] rfl)
set_option maxHeartbeats 4000000 in
set_option maxRecDepth 100000 in
theorem wX2_valueAt_10 {p : Program} {l : Launch} {e : Env} {s : State} {m : MethodId} {args : Array Value} {below : List Frame} {meth : Method} {c : Code} {G : GX} {A : Nat → Prop} (C : Cx p s m args meth c cX2_valueAt 14 (some .long) wsX2_valueAt RX2 G A) (q0 : Nat) (q0_cell : Nat) (q0_top : Nat) (k0_cell : Nat → Int64) (p1 : Int32) (p2 : Int32) (p3 : Int32) (p4 : Int32) (res : Int64) (n : Nat) : ∀ (x5 : Int64) (x7 : Int32) (H : Heap) (locs : List Loc) (ls : Array Slot), fX2_valueAt_L10 k0_cell p1 p2 p3 p4 n x5 x7 = some res → va_P G.1 vwCl (wdX2_valueAt G q0 q0_cell q0_top k0_cell) H → va_D A (wdX2_valueAt G q0 q0_cell q0_top k0_cell) → va_S A s.heap H locs → lv_has ls 14 [(0, .ref q0), (1, .int p1), (2, .int p2), (3, .int p3), (4, .int p4), (5, .long x5), (7, .int x7)] → glX2_valueAt p l e s m args below meth c G A q0 q0_cell q0_top k0_cell res H locs 10 ls [] := by
  obtain ⟨hx, hb, hml, hown, hts, hr, hlocks, hA, hG⟩ := id C
  induction n with
  | zero => intro x5 x7 H locs ls hf hP hD hS hl; cases hf
  | succ n ih =>
    intro x5 x7 H locs ls hf hP hD hS hl
    simp only [fX2_valueAt_L10] at hf
    refine lv_iload hx hb dX2_valueAt_10 (lv_at hl 6 rfl) ?_
    refine lv_if_lt (tgt := 107) hx hb dX2_valueAt_12 (by decide) (fun hc => ?_) (fun hc => ?_)
    · have hf := if_t hc hf
      refine lv_lload hx hb dX2_valueAt_107 (lv_at hl 5 rfl) ?_
      cases hf
      exact rt_l C hP hD hS dX2_valueAt_109
    · have hf := if_f hc hf
      refine lv_lconst (v := (0 : Int64)) hx hb dX2_valueAt_15 (by decide) ?_
      refine lv_lstore (lv' := [(8, .long (0 : Int64)), (0, .ref q0), (1, .int p1), (2, .int p2), (3, .int p3), (4, .int p4), (5, .long x5), (7, .int x7)]) hx hb dX2_valueAt_16 hl (by decide) rfl (fun ls hl => ?_)
      refine va_getsN hx hb hG.2.2.2.1.1 hS hown (va_Nw.use rfl (hG.2.1 (.fieldLinkNest RX2 50 RX5 "MOST" "[I" RX5) (by decide +kernel))) (fun _ h9 => h9) dX2_valueAt_18 ?_
      refine lv_iconst (v := (3 : Int32)) hx hb dX2_valueAt_21 (by decide) ?_
      obtain ⟨hin, hf⟩ := gI_use hf
      refine va_ti hx hb hG.2.2.2.1.2 hS hin rfl dX2_valueAt_22 ?_
      refine lv_topi (fun y12 ey12 => ?_)
      have hf := nm_use ey12 hf
      refine lv_istore (lv' := [(10, .int y12), (8, .long (0 : Int64)), (0, .ref q0), (1, .int p1), (2, .int p2), (3, .int p3), (4, .int p4), (5, .long x5), (7, .int x7)]) hx hb dX2_valueAt_23 hl (by decide) rfl (fun ls hl => ?_)
      exact wX2_valueAt_25 C q0 q0_cell q0_top k0_cell p1 p2 p3 p4 res (fX2_valueAt_L10 k0_cell p1 p2 p3 p4 n) ih fu x5 x7 (0 : Int64) y12 _ _ ls hf hP hD hS (lv_sub hl [2, 3, 4, 5, 6, 7, 8, 1, 0] rfl)
set_option maxHeartbeats 4000000 in
set_option maxRecDepth 100000 in
theorem tX2_valueAt (l : Launch) (G : GX) (q0 : Nat) (q0_cell : Nat) (q0_top : Nat) (k0_cell : Nat → Int64) (p1 : Int32) (p2 : Int32) (p3 : Int32) (p4 : Int32) (res : Int64) (hf : fX2_valueAt k0_cell p1 p2 p3 p4 = some res) : Ct l yX2_valueAt wsX2_valueAt rmX2_valueAt G [.ref q0, .int p1, .int p2, .int p3, .int p4] (wdX2_valueAt G q0 q0_cell q0_top k0_cell) (wdX2_valueAt G q0 q0_cell q0_top k0_cell) (some (.long res)) := by
  refine Ct.of (cc := cX2_valueAt) (nL := 14) (ret := (some .long)) (by decide) rfl (Nat.le_of_ble_eq_true rfl) rfl ?_
  intro p e s m below meth c A ls C hP hD hl
  obtain ⟨hx, hb, hml, hown, hts, hr, hlocks, hA, hG⟩ := id C
  have hS : va_S A s.heap s.heap [] := va_S.rf
  unfold fX2_valueAt at hf
  refine lv_lconst (v := (0 : Int64)) hx hb dX2_valueAt_0 (by decide) ?_
  refine lv_lstore (lv' := [(5, .long (0 : Int64)), (0, .ref q0), (1, .int p1), (2, .int p2), (3, .int p3), (4, .int p4)]) hx hb dX2_valueAt_1 hl (by decide) rfl (fun ls hl => ?_)
  refine va_getsN hx hb hG.2.2.2.1.1 hS hown (va_Nw.use rfl (hG.2.1 (.fieldLinkNest RX2 50 RX5 "MOST" "[I" RX5) (by decide +kernel))) (fun _ h9 => h9) dX2_valueAt_3 ?_
  refine lv_iconst (v := (4 : Int32)) hx hb dX2_valueAt_6 (by decide) ?_
  obtain ⟨hin, hf⟩ := gI_use hf
  refine va_ti hx hb hG.2.2.2.1.2 hS hin rfl dX2_valueAt_7 ?_
  refine lv_topi (fun y14 ey14 => ?_)
  have hf := nm_use ey14 hf
  refine lv_istore (lv' := [(7, .int y14), (5, .long (0 : Int64)), (0, .ref q0), (1, .int p1), (2, .int p2), (3, .int p3), (4, .int p4)]) hx hb dX2_valueAt_8 hl (by decide) rfl (fun ls hl => ?_)
  exact wX2_valueAt_10 C q0 q0_cell q0_top k0_cell p1 p2 p3 p4 res fu (0 : Int64) y14 _ _ ls hf hP hD hS (lv_sub hl [2, 3, 4, 5, 6, 1, 0] rfl)
abbrev wdX2_pairCell (G : GX) : va_W := []
abbrev rmX2_pairCell : Room := { frames := 0, cells := 0, slots := 0, locals := 0 }
abbrev glX2_pairCell (p : Program) (l : Launch) (e : Env) (s : State) (m : MethodId) (args : Array Value) (below : List Frame) (meth : Method) (c : Code) (G : GX) (A : Nat → Prop) (res : Int32) (H : Heap) (locs : List Loc) (pc : Nat) (ls : Array Slot) (st : List Value) : Prop := W p l e rmX2_pairCell s m args below meth c H locs 0 0 (MQ below (ctQ G A (wdX2_pairCell G) (some (.int res))) args s 0 0 A) (F0 m pc ls st)
set_option maxHeartbeats 4000000 in
set_option maxRecDepth 100000 in
theorem tX2_pairCell (l : Launch) (G : GX) (p0 : Int32) (p1 : Int32) (p2 : Int32) (p3 : Int32) (res : Int32) (hf : fX2_pairCell p0 p1 p2 p3 = some res) : Ct l yX2_pairCell wsX2_pairCell rmX2_pairCell G [.int p0, .int p1, .int p2, .int p3] (wdX2_pairCell G) (wdX2_pairCell G) (some (.int res)) := by
  refine Ct.of (cc := cX2_pairCell) (nL := 4) (ret := (some .int)) (by decide) rfl (Nat.le_of_ble_eq_true rfl) rfl ?_
  intro p e s m below meth c A ls C hP hD hl
  obtain ⟨hx, hb, hml, hown, hts, hr, hlocks, hA, hG⟩ := id C
  have hS : va_S A s.heap s.heap [] := va_S.rf
  unfold fX2_pairCell at hf
  refine lv_iload_n hx hb dX2_pairCell_0 rfl (lv_at hl 0 rfl) ?_
  refine lv_iconst (v := (1 : Int32)) hx hb dX2_pairCell_1 (by decide) ?_
  refine lv_icmp_lt (tgt := 38) hx hb dX2_pairCell_2 (by decide) (fun hc => ?_) (fun hc => ?_)
  · have hf := if_t hc hf
    refine lv_iconst (v := (-1 : Int32)) hx hb dX2_pairCell_38 (by decide) ?_
    cases hf
    exact rt_i C hP hD hS dX2_pairCell_39
  · have hf := if_f hc hf
    refine lv_iload_n hx hb dX2_pairCell_5 rfl (lv_at hl 0 rfl) ?_
    refine lv_iconst (v := (4 : Int32)) hx hb dX2_pairCell_6 (by decide) ?_
    refine lv_icmp_ge (tgt := 38) hx hb dX2_pairCell_7 (by decide) (fun hc => ?_) (fun hc => ?_)
    · have hf := if_t hc hf
      refine lv_iconst (v := (-1 : Int32)) hx hb dX2_pairCell_38 (by decide) ?_
      cases hf
      exact rt_i C hP hD hS dX2_pairCell_39
    · have hf := if_f hc hf
      refine lv_iload_n hx hb dX2_pairCell_10 rfl (lv_at hl 2 rfl) ?_
      refine lv_if_lt (tgt := 38) hx hb dX2_pairCell_11 (by decide) (fun hc => ?_) (fun hc => ?_)
      · have hf := if_t hc hf
        refine lv_iconst (v := (-1 : Int32)) hx hb dX2_pairCell_38 (by decide) ?_
        cases hf
        exact rt_i C hP hD hS dX2_pairCell_39
      · have hf := if_f hc hf
        refine lv_iload_n hx hb dX2_pairCell_14 rfl (lv_at hl 2 rfl) ?_
        refine va_getsN hx hb hG.2.2.2.1.1 hS hown (va_Nw.use rfl (hG.2.1 (.fieldLinkNest RX2 50 RX5 "MOST" "[I" RX5) (by decide +kernel))) (fun _ h9 => h9) dX2_pairCell_15 ?_
        refine lv_iload_n hx hb dX2_pairCell_18 rfl (lv_at hl 0 rfl) ?_
        obtain ⟨hin, hf⟩ := gI_use hf
        refine va_ti hx hb hG.2.2.2.1.2 hS hin rfl dX2_pairCell_19 ?_
        refine lv_icmp_gt (tgt := 38) hx hb dX2_pairCell_20 (by decide) (fun hc => ?_) (fun hc => ?_)
        · have hf := if_t hc hf
          refine lv_iconst (v := (-1 : Int32)) hx hb dX2_pairCell_38 (by decide) ?_
          cases hf
          exact rt_i C hP hD hS dX2_pairCell_39
        · have hf := if_f hc hf
          refine lv_iload_n hx hb dX2_pairCell_23 rfl (lv_at hl 3 rfl) ?_
          refine lv_if_lt (tgt := 38) hx hb dX2_pairCell_24 (by decide) (fun hc => ?_) (fun hc => ?_)
          · have hf := if_t hc hf
            refine lv_iconst (v := (-1 : Int32)) hx hb dX2_pairCell_38 (by decide) ?_
            cases hf
            exact rt_i C hP hD hS dX2_pairCell_39
          · have hf := if_f hc hf
            refine lv_iload_n hx hb dX2_pairCell_27 rfl (lv_at hl 3 rfl) ?_
            refine va_getsN hx hb hG.2.2.2.1.1 hS hown (va_Nw.use rfl (hG.2.1 (.fieldLinkNest RX2 50 RX5 "MOST" "[I" RX5) (by decide +kernel))) (fun _ h9 => h9) dX2_pairCell_28 ?_
            refine lv_iload_n hx hb dX2_pairCell_31 rfl (lv_at hl 0 rfl) ?_
            refine lv_iconst (v := (1 : Int32)) hx hb dX2_pairCell_32 (by decide) ?_
            refine lv_iadd hx hb dX2_pairCell_33 ?_
            obtain ⟨hin, hf⟩ := gI_use hf
            refine va_ti hx hb hG.2.2.2.1.2 hS hin rfl dX2_pairCell_34 ?_
            refine lv_icmp_le (tgt := 40) hx hb dX2_pairCell_35 (by decide) (fun hc => ?_) (fun hc => ?_)
            · have hf := if_t hc hf
              refine lv_iload_n hx hb dX2_pairCell_40 rfl (lv_at hl 1 rfl) ?_
              refine lv_iload_n hx hb dX2_pairCell_41 rfl (lv_at hl 2 rfl) ?_
              refine va_getsN hx hb hG.2.2.1.1 hS hown (va_Nw.use rfl (hG.2.1 (.fieldLinkNest RX2 69 RX5 "STRIDE" "[I" RX5) (by decide +kernel))) (fun _ h9 => h9) dX2_pairCell_42 ?_
              refine lv_iload_n hx hb dX2_pairCell_45 rfl (lv_at hl 0 rfl) ?_
              obtain ⟨hin, hf⟩ := gI_use hf
              refine va_ti hx hb hG.2.2.1.2 hS hin rfl dX2_pairCell_46 ?_
              refine lv_imul hx hb dX2_pairCell_47 ?_
              refine lv_iadd hx hb dX2_pairCell_48 ?_
              refine lv_iload_n hx hb dX2_pairCell_49 rfl (lv_at hl 3 rfl) ?_
              refine va_getsN hx hb hG.2.2.1.1 hS hown (va_Nw.use rfl (hG.2.1 (.fieldLinkNest RX2 69 RX5 "STRIDE" "[I" RX5) (by decide +kernel))) (fun _ h9 => h9) dX2_pairCell_50 ?_
              refine lv_iload_n hx hb dX2_pairCell_53 rfl (lv_at hl 0 rfl) ?_
              refine lv_iconst (v := (1 : Int32)) hx hb dX2_pairCell_54 (by decide) ?_
              refine lv_iadd hx hb dX2_pairCell_55 ?_
              obtain ⟨hin, hf⟩ := gI_use hf
              refine va_ti hx hb hG.2.2.1.2 hS hin rfl dX2_pairCell_56 ?_
              refine lv_imul hx hb dX2_pairCell_57 ?_
              refine lv_iadd hx hb dX2_pairCell_58 ?_
              cases hf
              exact rt_i C hP hD hS dX2_pairCell_59
            · have hf := if_f hc hf
              refine lv_iconst (v := (-1 : Int32)) hx hb dX2_pairCell_38 (by decide) ?_
              cases hf
              exact rt_i C hP hD hS dX2_pairCell_39
abbrev wdX2_put (G : GX) (q0 : Nat) (q0_cell : Nat) (q0_top : Nat) (k0_cell : Nat → Int64) : va_W := [(q0, .inr (2, [.ref q0_cell, .ref q0_top])), (q0_cell, .inl (G.2.2.1, 3024, .inr (.inl k0_cell)))]
abbrev rmX2_put : Room := { frames := 0, cells := 0, slots := 0, locals := 0 }
abbrev glX2_put (p : Program) (l : Launch) (e : Env) (s : State) (m : MethodId) (args : Array Value) (below : List Frame) (meth : Method) (c : Code) (G : GX) (A : Nat → Prop) (q0 : Nat) (q0_cell : Nat) (q0_top : Nat) (res : (Nat → Int64)) (H : Heap) (locs : List Loc) (pc : Nat) (ls : Array Slot) (st : List Value) : Prop := W p l e rmX2_put s m args below meth c H locs 0 0 (MQ below (ctQ G A (wdX2_put G q0 q0_cell q0_top res) none) args s 0 0 A) (F0 m pc ls st)
set_option maxRecDepth 20000 in
theorem mX2_put_0 : Cond.fieldLink RX2 9 "SchubertDesk$Grid" "cell" "[J" ∈ wsX2_put := by decide +kernel
set_option maxRecDepth 20000 in
theorem nX2_put_X2 : ∀ w ∈ u_ws RX2 TX2 2, w ∈ wsX2_put := by decide +kernel
set_option maxHeartbeats 4000000 in
set_option maxRecDepth 100000 in
theorem tX2_put (l : Launch) (G : GX) (q0 : Nat) (q0_cell : Nat) (q0_top : Nat) (k0_cell : Nat → Int64) (p1 : Int32) (p2 : Int64) (res : (Nat → Int64)) (hf : fX2_put k0_cell p1 p2 = some res) : Ct l yX2_put wsX2_put rmX2_put G [.ref q0, .int p1, .long p2] (wdX2_put G q0 q0_cell q0_top k0_cell) (wdX2_put G q0 q0_cell q0_top res) none := by
  refine Ct.of (cc := cX2_put) (nL := 4) (ret := none) (by decide) rfl (Nat.le_of_ble_eq_true rfl) rfl ?_
  intro p e s m below meth c A ls C hP hD hl
  obtain ⟨hx, hb, hml, hown, hts, hr, hlocks, hA, hG⟩ := id C
  have hS : va_S A s.heap s.heap [] := va_S.rf
  unfold fX2_put at hf
  refine lv_iload_n hx hb dX2_put_0 rfl (lv_at hl 1 rfl) ?_
  refine lv_if_lt (tgt := 18) hx hb dX2_put_1 (by decide) (fun hc => ?_) (fun hc => ?_)
  · have hf := if_t hc hf
    cases hf
    exact rt_v C hP hD hS dX2_put_18
  · have hf := if_f hc hf
    refine lv_iload_n hx hb dX2_put_4 rfl (lv_at hl 1 rfl) ?_
    refine lv_sipush (v := (3024 : Int32)) hx hb dX2_put_5 (by decide) ?_
    refine lv_icmp_ge (tgt := 18) hx hb dX2_put_8 (by decide) (fun hc => ?_) (fun hc => ?_)
    · have hf := if_t hc hf
      cases hf
      exact rt_v C hP hD hS dX2_put_18
    · have hf := if_f hc hf
      refine lv_aload_n hx hb dX2_put_11 rfl (lv_at hl 0 rfl) ?_
      refine va_get (D := G.1) (ci := 2) (v := .ref q0_cell) (C := RX2) (T := TX2) (N := 2) hx hb hts nX2_put_X2 hown hG.1 hP 0 rfl rfl 0 (by decide) (hts _ mX2_put_0) (fun _ h9 => h9) rfl dX2_put_12 ?_
      refine lv_iload_n hx hb dX2_put_15 rfl (lv_at hl 1 rfl) ?_
      refine lv_lload_n hx hb dX2_put_16 rfl (lv_at hl 2 rfl) ?_
      obtain ⟨hin, hf⟩ := pJ_use hf
      refine va_last hx hb hG.1 hP hD hS 1 1 rfl rfl hin dX2_put_17 (fun H locs hP hD hS => ?_)
      have hP : va_P G.1 vwCl (wdX2_put G q0 q0_cell q0_top (vp_updL k0_cell (p1).toNatClampNeg p2)) H := hP
      have hD : va_D A (wdX2_put G q0 q0_cell q0_top (vp_updL k0_cell (p1).toNatClampNeg p2)) := hD
      cases hf
      exact rt_v C hP hD hS dX2_put_18
abbrev wdX2_lowerLine (G : GX) (q0 : Nat) (q0_cell : Nat) (q0_top : Nat) (k0_cell : Nat → Int64) (k0_top : Nat → Int32) : va_W := [(q0, .inr (2, [.ref q0_cell, .ref q0_top])), (q0_cell, .inl (G.2.2.1, 3024, .inr (.inl k0_cell))), (q0_top, .inl (G.2.1, 5, .inl k0_top))]
abbrev rmX2_lowerLine : Room := { frames := 1, cells := 0, slots := 0, locals := 60 }
abbrev glX2_lowerLine (p : Program) (l : Launch) (e : Env) (s : State) (m : MethodId) (args : Array Value) (below : List Frame) (meth : Method) (c : Code) (G : GX) (A : Nat → Prop) (q0 : Nat) (q0_cell : Nat) (q0_top : Nat) (k0_top : Nat → Int32) (res : (Nat → Int64)) (H : Heap) (locs : List Loc) (pc : Nat) (ls : Array Slot) (st : List Value) : Prop := W p l e rmX2_lowerLine s m args below meth c H locs 0 0 (MQ below (ctQ G A (wdX2_lowerLine G q0 q0_cell q0_top res k0_top) none) args s 0 0 A) (F0 m pc ls st)
set_option maxRecDepth 20000 in
theorem mX2_lowerLine_0 : Cond.fieldLink RX2 15 "SchubertDesk$Grid" "top" "[I" ∈ wsX2_lowerLine := by decide +kernel
set_option maxRecDepth 20000 in
theorem mX2_lowerLine_1 : Cond.methodLink RX2 45 Lib.Math.max.name ∈ wsX2_lowerLine := by decide +kernel
set_option maxRecDepth 20000 in
theorem mX2_lowerLine_2 : Cond.static Lib.Math.max.name ∈ wsX2_lowerLine := by decide +kernel
set_option maxRecDepth 20000 in
theorem mX2_lowerLine_3 : Cond.initialized "java/lang/Math" ∈ wsX2_lowerLine := by decide +kernel
set_option maxRecDepth 20000 in
theorem mX2_lowerLine_4 : Cond.code Lib.Math.max.name Lib.Math.max.code 2 (some .int) ∈ wsX2_lowerLine := by decide +kernel
set_option maxRecDepth 20000 in
theorem mX2_lowerLine_5 : Cond.methodLink RX2 76 Lib.Math.min.name ∈ wsX2_lowerLine := by decide +kernel
set_option maxRecDepth 20000 in
theorem mX2_lowerLine_6 : Cond.static Lib.Math.min.name ∈ wsX2_lowerLine := by decide +kernel
set_option maxRecDepth 20000 in
theorem mX2_lowerLine_7 : Cond.code Lib.Math.min.name Lib.Math.min.code 2 (some .int) ∈ wsX2_lowerLine := by decide +kernel
set_option maxRecDepth 20000 in
theorem nX2_lowerLine_X2 : ∀ w ∈ u_ws RX2 TX2 2, w ∈ wsX2_lowerLine := by decide +kernel
set_option maxHeartbeats 4000000 in
set_option maxRecDepth 100000 in
theorem wX2_lowerLine_43 {p : Program} {l : Launch} {e : Env} {s : State} {m : MethodId} {args : Array Value} {below : List Frame} {meth : Method} {c : Code} {G : GX} {A : Nat → Prop} (C : Cx p s m args meth c cX2_lowerLine 10 none wsX2_lowerLine RX2 G A) (q0 : Nat) (q0_cell : Nat) (q0_top : Nat) (k0_top : Nat → Int32) (p1 : Int32) (p2 : Int32) (p3 : Int32) (res : (Nat → Int64)) (n : Nat) : ∀ (k0_cell : Nat → Int64) (x4 : Int64) (x7 : Int32) (H : Heap) (locs : List Loc) (ls : Array Slot), fX2_lowerLine_L43 k0_top p1 p2 p3 n k0_cell x4 x7 = some res → va_P G.1 vwCl (wdX2_lowerLine G q0 q0_cell q0_top k0_cell k0_top) H → va_D A (wdX2_lowerLine G q0 q0_cell q0_top k0_cell k0_top) → va_S A s.heap H locs → lv_has ls 10 [(0, .ref q0), (1, .int p1), (2, .int p2), (3, .int p3), (4, .long x4), (7, .int x7)] → glX2_lowerLine p l e s m args below meth c G A q0 q0_cell q0_top k0_top res H locs 43 ls [] := by
  obtain ⟨hx, hb, hml, hown, hts, hr, hlocks, hA, hG⟩ := id C
  induction n with
  | zero => intro k0_cell x4 x7 H locs ls hf hP hD hS hl; cases hf
  | succ n ih =>
    intro k0_cell x4 x7 H locs ls hf hP hD hS hl
    simp only [fX2_lowerLine_L43] at hf
    refine lv_iconst (v := (2 : Int32)) hx hb dX2_lowerLine_43 (by decide) ?_
    refine lv_iload hx hb dX2_lowerLine_44 (lv_at hl 5 rfl) ?_
    refine lv_imul hx hb dX2_lowerLine_46 ?_
    refine lv_iload_n hx hb dX2_lowerLine_47 rfl (lv_at hl 3 rfl) ?_
    refine lv_iconst (v := (2 : Int32)) hx hb dX2_lowerLine_48 (by decide) ?_
    refine lv_isub hx hb dX2_lowerLine_49 ?_
    refine lv_icmp_lt (tgt := 163) hx hb dX2_lowerLine_50 (by decide) (fun hc => ?_) (fun hc => ?_)
    · have hf := if_t hc hf
      cases hf
      exact rt_v C hP hD hS dX2_lowerLine_163
    · have hf := if_f hc hf
      refine lv_iload_n hx hb dX2_lowerLine_53 rfl (lv_at hl 1 rfl) ?_
      refine lv_iload_n hx hb dX2_lowerLine_54 rfl (lv_at hl 2 rfl) ?_
      refine lv_iload hx hb dX2_lowerLine_55 (lv_at hl 5 rfl) ?_
      refine lv_iconst (v := (1 : Int32)) hx hb dX2_lowerLine_57 (by decide) ?_
      refine lv_iadd hx hb dX2_lowerLine_58 ?_
      refine lv_iload_n hx hb dX2_lowerLine_59 rfl (lv_at hl 3 rfl) ?_
      refine lv_iload hx hb dX2_lowerLine_60 (lv_at hl 5 rfl) ?_
      refine lv_isub hx hb dX2_lowerLine_62 ?_
      refine lv_iconst (v := (1 : Int32)) hx hb dX2_lowerLine_63 (by decide) ?_
      refine lv_isub hx hb dX2_lowerLine_64 ?_
      obtain ⟨r1, hr1, hf⟩ := bd_use hf
      refine cl_S (wn := (wdX2_lowerLine G q0 q0_cell q0_top k0_cell k0_top)) (st1 := [.int r1]) C hP hD hS (tX2_pairCell l G p1 p2 (x7 + (1 : Int32)) ((p3 - x7) - (1 : Int32)) r1 hr1) (va_cwS 4 hts gX2_lowerLine_X2_pairCell rfl rfl rfl (by decide +kernel) ⟨Nat.le_of_ble_eq_true rfl, Nat.le_of_ble_eq_true rfl⟩) [] [0, 1, 2] [0, 1, 2] rfl rfl rfl rfl (by decide) rfl rfl rfl hl.1 rfl rfl (Nat.le_of_ble_eq_true rfl) dX2_lowerLine_65 (fun H locs hP hD hS => ?_)
      refine lv_istore (lv' := [(8, .int r1), (0, .ref q0), (1, .int p1), (2, .int p2), (3, .int p3), (4, .long x4), (7, .int x7)]) hx hb dX2_lowerLine_68 hl (by decide) rfl (fun ls hl => ?_)
      refine lv_iload_n hx hb dX2_lowerLine_70 rfl (lv_at hl 2 rfl) ?_
      refine lv_iload_n hx hb dX2_lowerLine_71 rfl (lv_at hl 3 rfl) ?_
      refine lv_iload_n hx hb dX2_lowerLine_72 rfl (lv_at hl 4 rfl) ?_
      refine lv_iload hx hb dX2_lowerLine_73 (lv_at hl 6 rfl) ?_
      refine lv_isub hx hb dX2_lowerLine_75 ?_
      refine lv_iconst (v := (1 : Int32)) hx hb dX2_lowerLine_76 (by decide) ?_
      refine lv_isub hx hb dX2_lowerLine_77 ?_
      refine lv_iload hx hb dX2_lowerLine_78 (lv_at hl 6 rfl) ?_
      refine lv_iconst (v := (1 : Int32)) hx hb dX2_lowerLine_80 (by decide) ?_
      refine lv_iadd hx hb dX2_lowerLine_81 ?_
      obtain ⟨r2, hr2, hf⟩ := bd_use hf
      refine cl_S (wn := (wdX2_lowerLine G q0 q0_cell q0_top k0_cell k0_top)) (st1 := [.int r2]) C hP hD hS (tX2_pairCell l G p1 p2 ((p3 - x7) - (1 : Int32)) (x7 + (1 : Int32)) r2 hr2) (va_cwS 4 hts gX2_lowerLine_X2_pairCell rfl rfl rfl (by decide +kernel) ⟨Nat.le_of_ble_eq_true rfl, Nat.le_of_ble_eq_true rfl⟩) [] [0, 1, 2] [0, 1, 2] rfl rfl rfl rfl (by decide) rfl rfl rfl hl.1 rfl rfl (Nat.le_of_ble_eq_true rfl) dX2_lowerLine_82 (fun H locs hP hD hS => ?_)
      refine lv_istore (lv' := [(9, .int r2), (8, .int r1), (0, .ref q0), (1, .int p1), (2, .int p2), (3, .int p3), (4, .long x4), (7, .int x7)]) hx hb dX2_lowerLine_85 hl (by decide) rfl (fun ls hl => ?_)
      refine lv_lload hx hb dX2_lowerLine_87 (lv_at hl 6 rfl) ?_
      refine lv_aload_n hx hb dX2_lowerLine_89 rfl (lv_at hl 2 rfl) ?_
      refine lv_iload hx hb dX2_lowerLine_90 (lv_at hl 1 rfl) ?_
      obtain ⟨r3, hr3, hf⟩ := bd_use hf
      refine cl_V (wn := (wdX2_lowerLine G q0 q0_cell q0_top k0_cell k0_top)) (st1 := [.long r3, .long x4]) C hP hD hS (tX2_at l G q0 q0_cell q0_top k0_cell r1 r3 hr3) (cwV 1 hts gX2_lowerLine_X2_at rfl rfl rfl (by decide +kernel) ⟨Nat.le_of_ble_eq_true rfl, Nat.le_of_ble_eq_true rfl⟩) [0, 1] [2] [1, 2, 0] rfl rfl rfl rfl (by decide) rfl rfl (ci := 2) (q0 := 0) rfl rfl rfl rfl hl.1 rfl rfl (Nat.le_of_ble_eq_true rfl) dX2_lowerLine_92 (fun H locs hP hD hS => ?_)
      refine lv_aload_n hx hb dX2_lowerLine_95 rfl (lv_at hl 2 rfl) ?_
      refine lv_iload hx hb dX2_lowerLine_96 (lv_at hl 0 rfl) ?_
      obtain ⟨r4, hr4, hf⟩ := bd_use hf
      refine cl_V (wn := (wdX2_lowerLine G q0 q0_cell q0_top k0_cell k0_top)) (st1 := [.long r4, .long r3, .long x4]) C hP hD hS (tX2_at l G q0 q0_cell q0_top k0_cell r2 r4 hr4) (cwV 1 hts gX2_lowerLine_X2_at rfl rfl rfl (by decide +kernel) ⟨Nat.le_of_ble_eq_true rfl, Nat.le_of_ble_eq_true rfl⟩) [0, 1] [2] [1, 2, 0] rfl rfl rfl rfl (by decide) rfl rfl (ci := 2) (q0 := 0) rfl rfl rfl rfl hl.1 rfl rfl (Nat.le_of_ble_eq_true rfl) dX2_lowerLine_98 (fun H locs hP hD hS => ?_)
      refine lv_lsub hx hb dX2_lowerLine_101 ?_
      refine lv_ladd hx hb dX2_lowerLine_102 ?_
      refine lv_topl (fun y5 ey5 => ?_)
      have hf := nm_use ey5 hf
      refine lv_lstore (lv' := [(4, .long y5), (9, .int r2), (8, .int r1), (0, .ref q0), (1, .int p1), (2, .int p2), (3, .int p3), (7, .int x7)]) hx hb dX2_lowerLine_103 hl (by decide) rfl (fun ls hl => ?_)
      refine lv_aload_n hx hb dX2_lowerLine_105 rfl (lv_at hl 3 rfl) ?_
      refine lv_iload hx hb dX2_lowerLine_106 (lv_at hl 2 rfl) ?_
      refine lv_lconst (v := (0 : Int64)) hx hb dX2_lowerLine_108 (by decide) ?_
      obtain ⟨r6, hr6, hf⟩ := bd_use hf
      refine cl_V (wn := (wdX2_lowerLine G q0 q0_cell q0_top r6 k0_top)) (st1 := []) C hP hD hS (tX2_put l G q0 q0_cell q0_top k0_cell r1 (0 : Int64) r6 hr6) (cwV 2 hts gX2_lowerLine_X2_put rfl rfl rfl (by decide +kernel) ⟨Nat.le_of_ble_eq_true rfl, Nat.le_of_ble_eq_true rfl⟩) [0, 1] [2] [1, 2, 0] rfl rfl rfl rfl (by decide) rfl rfl (ci := 2) (q0 := 0) rfl rfl rfl rfl hl.1 rfl rfl (Nat.le_of_ble_eq_true rfl) dX2_lowerLine_109 (fun H locs hP hD hS => ?_)
      refine lv_aload_n hx hb dX2_lowerLine_112 rfl (lv_at hl 3 rfl) ?_
      refine lv_iload hx hb dX2_lowerLine_113 (lv_at hl 1 rfl) ?_
      refine lv_lconst (v := (0 : Int64)) hx hb dX2_lowerLine_115 (by decide) ?_
      obtain ⟨r7, hr7, hf⟩ := bd_use hf
      refine cl_V (wn := (wdX2_lowerLine G q0 q0_cell q0_top r7 k0_top)) (st1 := []) C hP hD hS (tX2_put l G q0 q0_cell q0_top r6 r2 (0 : Int64) r7 hr7) (cwV 2 hts gX2_lowerLine_X2_put rfl rfl rfl (by decide +kernel) ⟨Nat.le_of_ble_eq_true rfl, Nat.le_of_ble_eq_true rfl⟩) [0, 1] [2] [1, 2, 0] rfl rfl rfl rfl (by decide) rfl rfl (ci := 2) (q0 := 0) rfl rfl rfl rfl hl.1 rfl rfl (Nat.le_of_ble_eq_true rfl) dX2_lowerLine_116 (fun H locs hP hD hS => ?_)
      refine lv_aload_n hx hb dX2_lowerLine_119 rfl (lv_at hl 3 rfl) ?_
      refine lv_iload_n hx hb dX2_lowerLine_120 rfl (lv_at hl 4 rfl) ?_
      refine lv_iload_n hx hb dX2_lowerLine_121 rfl (lv_at hl 5 rfl) ?_
      refine lv_iload hx hb dX2_lowerLine_122 (lv_at hl 7 rfl) ?_
      refine lv_iload_n hx hb dX2_lowerLine_124 rfl (lv_at hl 6 rfl) ?_
      refine lv_iconst (v := (1 : Int32)) hx hb dX2_lowerLine_125 (by decide) ?_
      refine lv_isub hx hb dX2_lowerLine_126 ?_
      refine lv_iload hx hb dX2_lowerLine_127 (lv_at hl 7 rfl) ?_
      refine lv_isub hx hb dX2_lowerLine_129 ?_
      obtain ⟨r8, hr8, hf⟩ := bd_use hf
      refine cl_S (wn := (wdX2_lowerLine G q0 q0_cell q0_top r7 k0_top)) (st1 := [.int r8, .ref q0]) C hP hD hS (tX2_pairCell l G p1 p2 x7 ((p3 - (1 : Int32)) - x7) r8 hr8) (va_cwS 4 hts gX2_lowerLine_X2_pairCell rfl rfl rfl (by decide +kernel) ⟨Nat.le_of_ble_eq_true rfl, Nat.le_of_ble_eq_true rfl⟩) [] [0, 1, 2] [0, 1, 2] rfl rfl rfl rfl (by decide) rfl rfl rfl hl.1 rfl rfl (Nat.le_of_ble_eq_true rfl) dX2_lowerLine_130 (fun H locs hP hD hS => ?_)
      refine lv_lload hx hb dX2_lowerLine_133 (lv_at hl 0 rfl) ?_
      obtain ⟨r9, hr9, hf⟩ := bd_use hf
      refine cl_V (wn := (wdX2_lowerLine G q0 q0_cell q0_top r9 k0_top)) (st1 := []) C hP hD hS (tX2_put l G q0 q0_cell q0_top r7 r8 y5 r9 hr9) (cwV 2 hts gX2_lowerLine_X2_put rfl rfl rfl (by decide +kernel) ⟨Nat.le_of_ble_eq_true rfl, Nat.le_of_ble_eq_true rfl⟩) [0, 1] [2] [1, 2, 0] rfl rfl rfl rfl (by decide) rfl rfl (ci := 2) (q0 := 0) rfl rfl rfl rfl hl.1 rfl rfl (Nat.le_of_ble_eq_true rfl) dX2_lowerLine_135 (fun H locs hP hD hS => ?_)
      refine lv_aload_n hx hb dX2_lowerLine_138 rfl (lv_at hl 3 rfl) ?_
      refine lv_iload_n hx hb dX2_lowerLine_139 rfl (lv_at hl 4 rfl) ?_
      refine lv_iload_n hx hb dX2_lowerLine_140 rfl (lv_at hl 5 rfl) ?_
      refine lv_iload_n hx hb dX2_lowerLine_141 rfl (lv_at hl 6 rfl) ?_
      refine lv_iconst (v := (1 : Int32)) hx hb dX2_lowerLine_142 (by decide) ?_
      refine lv_isub hx hb dX2_lowerLine_143 ?_
      refine lv_iload hx hb dX2_lowerLine_144 (lv_at hl 7 rfl) ?_
      refine lv_isub hx hb dX2_lowerLine_146 ?_
      refine lv_iload hx hb dX2_lowerLine_147 (lv_at hl 7 rfl) ?_
      obtain ⟨r10, hr10, hf⟩ := bd_use hf
      refine cl_S (wn := (wdX2_lowerLine G q0 q0_cell q0_top r9 k0_top)) (st1 := [.int r10, .ref q0]) C hP hD hS (tX2_pairCell l G p1 p2 ((p3 - (1 : Int32)) - x7) x7 r10 hr10) (va_cwS 4 hts gX2_lowerLine_X2_pairCell rfl rfl rfl (by decide +kernel) ⟨Nat.le_of_ble_eq_true rfl, Nat.le_of_ble_eq_true rfl⟩) [] [0, 1, 2] [0, 1, 2] rfl rfl rfl rfl (by decide) rfl rfl rfl hl.1 rfl rfl (Nat.le_of_ble_eq_true rfl) dX2_lowerLine_149 (fun H locs hP hD hS => ?_)
      refine lv_lload hx hb dX2_lowerLine_152 (lv_at hl 0 rfl) ?_
      obtain ⟨r11, hr11, hf⟩ := bd_use hf
      refine cl_V (wn := (wdX2_lowerLine G q0 q0_cell q0_top r11 k0_top)) (st1 := []) C hP hD hS (tX2_put l G q0 q0_cell q0_top r9 r10 y5 r11 hr11) (cwV 2 hts gX2_lowerLine_X2_put rfl rfl rfl (by decide +kernel) ⟨Nat.le_of_ble_eq_true rfl, Nat.le_of_ble_eq_true rfl⟩) [0, 1] [2] [1, 2, 0] rfl rfl rfl rfl (by decide) rfl rfl (ci := 2) (q0 := 0) rfl rfl rfl rfl hl.1 rfl rfl (Nat.le_of_ble_eq_true rfl) dX2_lowerLine_154 (fun H locs hP hD hS => ?_)
      obtain ⟨y12, ey12⟩ : ∃ z : Int32, z = x7 + (-1 : Int32) := ⟨_, rfl⟩
      have hf := nm_use ey12 hf
      refine lv_iinc (v := y12) (lv' := [(7, .int y12), (4, .long y5), (9, .int r2), (8, .int r1), (0, .ref q0), (1, .int p1), (2, .int p2), (3, .int p3)]) hx hb dX2_lowerLine_157 hl (k := 7) rfl (by rw [ey12]; rfl) (by decide) rfl (fun ls hl => ?_)
      refine lv_goto (tgt := 43) hx hb dX2_lowerLine_160 (by decide) ?_
      exact ih r11 y5 y12 _ _ ls hf hP hD hS (lv_sub hl [4, 5, 6, 7, 1, 0] rfl)
set_option maxHeartbeats 4000000 in
set_option maxRecDepth 100000 in
theorem tX2_lowerLine (l : Launch) (G : GX) (q0 : Nat) (q0_cell : Nat) (q0_top : Nat) (k0_cell : Nat → Int64) (k0_top : Nat → Int32) (p1 : Int32) (p2 : Int32) (p3 : Int32) (res : (Nat → Int64)) (hf : fX2_lowerLine k0_cell k0_top p1 p2 p3 = some res) : Ct l yX2_lowerLine wsX2_lowerLine rmX2_lowerLine G [.ref q0, .int p1, .int p2, .int p3] (wdX2_lowerLine G q0 q0_cell q0_top k0_cell k0_top) (wdX2_lowerLine G q0 q0_cell q0_top res k0_top) none := by
  refine Ct.of (cc := cX2_lowerLine) (nL := 10) (ret := none) (by decide) rfl (Nat.le_of_ble_eq_true rfl) rfl ?_
  intro p e s m below meth c A ls C hP hD hl
  obtain ⟨hx, hb, hml, hown, hts, hr, hlocks, hA, hG⟩ := id C
  have hS : va_S A s.heap s.heap [] := va_S.rf
  unfold fX2_lowerLine at hf
  refine lv_iload_n hx hb dX2_lowerLine_0 rfl (lv_at hl 1 rfl) ?_
  refine lv_iconst (v := (1 : Int32)) hx hb dX2_lowerLine_1 (by decide) ?_
  refine lv_icmp_lt (tgt := 10) hx hb dX2_lowerLine_2 (by decide) (fun hc => ?_) (fun hc => ?_)
  · have hf := if_t hc hf
    cases hf
    exact rt_v C hP hD hS dX2_lowerLine_10
  · have hf := if_f hc hf
    refine lv_iload_n hx hb dX2_lowerLine_5 rfl (lv_at hl 1 rfl) ?_
    refine lv_iconst (v := (4 : Int32)) hx hb dX2_lowerLine_6 (by decide) ?_
    refine lv_icmp_lt (tgt := 11) hx hb dX2_lowerLine_7 (by decide) (fun hc => ?_) (fun hc => ?_)
    · have hf := if_t hc hf
      refine lv_lconst (v := (0 : Int64)) hx hb dX2_lowerLine_11 (by decide) ?_
      refine lv_lstore (lv' := [(4, .long (0 : Int64)), (0, .ref q0), (1, .int p1), (2, .int p2), (3, .int p3)]) hx hb dX2_lowerLine_12 hl (by decide) rfl (fun ls hl => ?_)
      refine lv_iload_n hx hb dX2_lowerLine_14 rfl (lv_at hl 4 rfl) ?_
      refine lv_iconst (v := (1 : Int32)) hx hb dX2_lowerLine_15 (by decide) ?_
      refine lv_isub hx hb dX2_lowerLine_16 ?_
      refine lv_aload_n hx hb dX2_lowerLine_17 rfl (lv_at hl 1 rfl) ?_
      refine va_get (D := G.1) (ci := 2) (v := .ref q0_top) (C := RX2) (T := TX2) (N := 2) hx hb hts nX2_lowerLine_X2 hown hG.1 hP 0 rfl rfl 1 (by decide) (hts _ mX2_lowerLine_0) (fun _ h9 => h9) rfl dX2_lowerLine_18 ?_
      refine lv_iload_n hx hb dX2_lowerLine_21 rfl (lv_at hl 2 rfl) ?_
      obtain ⟨hin, hf⟩ := gI_use hf
      refine va_iald hx hb hG.1 hP 2 0 rfl rfl hin dX2_lowerLine_22 ?_
      refine lv_aload_n hx hb dX2_lowerLine_23 rfl (lv_at hl 1 rfl) ?_
      refine va_get (D := G.1) (ci := 2) (v := .ref q0_top) (C := RX2) (T := TX2) (N := 2) hx hb hts nX2_lowerLine_X2 hown hG.1 hP 0 rfl rfl 1 (by decide) (hts _ mX2_lowerLine_0) (fun _ h9 => h9) rfl dX2_lowerLine_24 ?_
      refine lv_iload_n hx hb dX2_lowerLine_27 rfl (lv_at hl 2 rfl) ?_
      refine lv_iconst (v := (1 : Int32)) hx hb dX2_lowerLine_28 (by decide) ?_
      refine lv_iadd hx hb dX2_lowerLine_29 ?_
      obtain ⟨hin, hf⟩ := gI_use hf
      refine va_iald hx hb hG.1 hP 2 0 rfl rfl hin dX2_lowerLine_30 ?_
      refine va_mmax hx hb (hml.trans hl.1.symm) hown (hts _ mX2_lowerLine_1) (hts _ mX2_lowerLine_2) (hts _ mX2_lowerLine_3) (hts _ mX2_lowerLine_4) (Nat.le_of_ble_eq_true rfl) (Nat.le_of_ble_eq_true rfl) (Nat.zero_le _) (Nat.zero_le _) dX2_lowerLine_31 ?_
      refine va_mmin hx hb (hml.trans hl.1.symm) hown (hts _ mX2_lowerLine_5) (hts _ mX2_lowerLine_6) (hts _ mX2_lowerLine_3) (hts _ mX2_lowerLine_7) (Nat.le_of_ble_eq_true rfl) (Nat.le_of_ble_eq_true rfl) (Nat.zero_le _) (Nat.zero_le _) dX2_lowerLine_34 ?_
      refine lv_topi (fun y15 ey15 => ?_)
      have hf := nm_use ey15 hf
      refine lv_istore (lv' := [(6, .int y15), (4, .long (0 : Int64)), (0, .ref q0), (1, .int p1), (2, .int p2), (3, .int p3)]) hx hb dX2_lowerLine_37 hl (by decide) rfl (fun ls hl => ?_)
      refine lv_iload hx hb dX2_lowerLine_39 (lv_at hl 0 rfl) ?_
      refine lv_istore (lv' := [(7, .int y15), (6, .int y15), (4, .long (0 : Int64)), (0, .ref q0), (1, .int p1), (2, .int p2), (3, .int p3)]) hx hb dX2_lowerLine_41 hl (by decide) rfl (fun ls hl => ?_)
      exact wX2_lowerLine_43 C q0 q0_cell q0_top k0_top p1 p2 p3 res fu k0_cell (0 : Int64) y15 _ _ ls hf hP hD hS (lv_sub hl [3, 4, 5, 6, 2, 0] rfl)
    · have hf := if_f hc hf
      cases hf
      exact rt_v C hP hD hS dX2_lowerLine_10
abbrev wdX2_lowerDegree (G : GX) (q0 : Nat) (q0_cell : Nat) (q0_top : Nat) (k0_cell : Nat → Int64) (k0_top : Nat → Int32) : va_W := [(q0, .inr (2, [.ref q0_cell, .ref q0_top])), (q0_cell, .inl (G.2.2.1, 3024, .inr (.inl k0_cell))), (q0_top, .inl (G.2.1, 5, .inl k0_top))]
abbrev rmX2_lowerDegree : Room := { frames := 2, cells := 0, slots := 0, locals := 89 }
abbrev glX2_lowerDegree (p : Program) (l : Launch) (e : Env) (s : State) (m : MethodId) (args : Array Value) (below : List Frame) (meth : Method) (c : Code) (G : GX) (A : Nat → Prop) (q0 : Nat) (q0_cell : Nat) (q0_top : Nat) (k0_top : Nat → Int32) (res : (Nat → Int64)) (H : Heap) (locs : List Loc) (pc : Nat) (ls : Array Slot) (st : List Value) : Prop := W p l e rmX2_lowerDegree s m args below meth c H locs 0 0 (MQ below (ctQ G A (wdX2_lowerDegree G q0 q0_cell q0_top res k0_top) none) args s 0 0 A) (F0 m pc ls st)
set_option maxRecDepth 20000 in
theorem mX2_lowerDegree_0 : Cond.fieldLink RX2 15 "SchubertDesk$Grid" "top" "[I" ∈ wsX2_lowerDegree := by decide +kernel
set_option maxRecDepth 20000 in
theorem nX2_lowerDegree_X2 : ∀ w ∈ u_ws RX2 TX2 2, w ∈ wsX2_lowerDegree := by decide +kernel
set_option maxHeartbeats 4000000 in
set_option maxRecDepth 100000 in
theorem wX2_lowerDegree_40 {p : Program} {l : Launch} {e : Env} {s : State} {m : MethodId} {args : Array Value} {below : List Frame} {meth : Method} {c : Code} {G : GX} {A : Nat → Prop} (C : Cx p s m args meth c cX2_lowerDegree 7 none wsX2_lowerDegree RX2 G A) (q0 : Nat) (q0_cell : Nat) (q0_top : Nat) (k0_top : Nat → Int32) (p1 : Int32) (p2 : Int32) (res : (Nat → Int64)) (rec26 : (Nat → Int64) → Int32 → Int32 → Int32 → Option ((Nat → Int64))) (hr26 : ∀ (k0_cell : Nat → Int64) (x3 : Int32) (x4 : Int32) (x5 : Int32) (H : Heap) (locs : List Loc) (ls : Array Slot), rec26 k0_cell x3 x4 x5 = some res → va_P G.1 vwCl (wdX2_lowerDegree G q0 q0_cell q0_top k0_cell k0_top) H → va_D A (wdX2_lowerDegree G q0 q0_cell q0_top k0_cell k0_top) → va_S A s.heap H locs → lv_has ls 7 [(0, .ref q0), (1, .int p1), (2, .int p2), (3, .int x3), (4, .int x4), (5, .int x5)] → glX2_lowerDegree p l e s m args below meth c G A q0 q0_cell q0_top k0_top res H locs 26 ls []) (n : Nat) : ∀ (k0_cell : Nat → Int64) (x3 : Int32) (x4 : Int32) (x5 : Int32) (x6 : Int32) (H : Heap) (locs : List Loc) (ls : Array Slot), fX2_lowerDegree_L40 k0_top p1 p2 rec26 n k0_cell x3 x4 x5 x6 = some res → va_P G.1 vwCl (wdX2_lowerDegree G q0 q0_cell q0_top k0_cell k0_top) H → va_D A (wdX2_lowerDegree G q0 q0_cell q0_top k0_cell k0_top) → va_S A s.heap H locs → lv_has ls 7 [(0, .ref q0), (1, .int p1), (2, .int p2), (3, .int x3), (4, .int x4), (5, .int x5), (6, .int x6)] → glX2_lowerDegree p l e s m args below meth c G A q0 q0_cell q0_top k0_top res H locs 40 ls [] := by
  obtain ⟨hx, hb, hml, hown, hts, hr, hlocks, hA, hG⟩ := id C
  induction n with
  | zero => intro k0_cell x3 x4 x5 x6 H locs ls hf hP hD hS hl; cases hf
  | succ n ih =>
    intro k0_cell x3 x4 x5 x6 H locs ls hf hP hD hS hl
    simp only [fX2_lowerDegree_L40] at hf
    refine lv_iload hx hb dX2_lowerDegree_40 (lv_at hl 6 rfl) ?_
    refine lv_aload_n hx hb dX2_lowerDegree_42 rfl (lv_at hl 0 rfl) ?_
    refine va_get (D := G.1) (ci := 2) (v := .ref q0_top) (C := RX2) (T := TX2) (N := 2) hx hb hts nX2_lowerDegree_X2 hown hG.1 hP 0 rfl rfl 1 (by decide) (hts _ mX2_lowerDegree_0) (fun _ h9 => h9) rfl dX2_lowerDegree_43 ?_
    refine lv_iload hx hb dX2_lowerDegree_46 (lv_at hl 4 rfl) ?_
    obtain ⟨hin, hf⟩ := gI_use hf
    refine va_iald hx hb hG.1 hP 2 0 rfl rfl hin dX2_lowerDegree_48 ?_
    refine lv_icmp_gt (tgt := 88) hx hb dX2_lowerDegree_49 (by decide) (fun hc => ?_) (fun hc => ?_)
    · have hf := if_t hc hf
      obtain ⟨y2, ey2⟩ : ∃ z : Int32, z = x5 + (1 : Int32) := ⟨_, rfl⟩
      have hf := nm_use ey2 hf
      refine lv_iinc (v := y2) (lv' := [(5, .int y2), (0, .ref q0), (1, .int p1), (2, .int p2), (3, .int x3), (4, .int x4), (6, .int x6)]) hx hb dX2_lowerDegree_88 hl (k := 5) rfl (by rw [ey2]; rfl) (by decide) rfl (fun ls hl => ?_)
      refine lv_goto (tgt := 26) hx hb dX2_lowerDegree_91 (by decide) ?_
      exact hr26 k0_cell x3 x4 y2 _ _ ls hf hP hD hS (lv_sub hl [1, 2, 3, 4, 5, 0] rfl)
    · have hf := if_f hc hf
      refine lv_aload_n hx hb dX2_lowerDegree_52 rfl (lv_at hl 0 rfl) ?_
      refine lv_iload_n hx hb dX2_lowerDegree_53 rfl (lv_at hl 1 rfl) ?_
      refine lv_iload hx hb dX2_lowerDegree_54 (lv_at hl 5 rfl) ?_
      refine va_getsN hx hb hG.2.2.1.1 hS hown (va_Nw.use rfl (hG.2.1 (.fieldLinkNest RX2 69 RX5 "STRIDE" "[I" RX5) (by decide +kernel))) (fun _ h9 => h9) dX2_lowerDegree_56 ?_
      refine lv_iload_n hx hb dX2_lowerDegree_59 rfl (lv_at hl 3 rfl) ?_
      obtain ⟨hin, hf⟩ := gI_use hf
      refine va_ti hx hb hG.2.2.1.2 hS hin rfl dX2_lowerDegree_60 ?_
      refine lv_imul hx hb dX2_lowerDegree_61 ?_
      refine lv_iload hx hb dX2_lowerDegree_62 (lv_at hl 6 rfl) ?_
      refine va_getsN hx hb hG.2.2.1.1 hS hown (va_Nw.use rfl (hG.2.1 (.fieldLinkNest RX2 69 RX5 "STRIDE" "[I" RX5) (by decide +kernel))) (fun _ h9 => h9) dX2_lowerDegree_64 ?_
      refine lv_iload hx hb dX2_lowerDegree_67 (lv_at hl 4 rfl) ?_
      obtain ⟨hin, hf⟩ := gI_use hf
      refine va_ti hx hb hG.2.2.1.2 hS hin rfl dX2_lowerDegree_69 ?_
      refine lv_imul hx hb dX2_lowerDegree_70 ?_
      refine lv_iadd hx hb dX2_lowerDegree_71 ?_
      refine lv_iload_n hx hb dX2_lowerDegree_72 rfl (lv_at hl 2 rfl) ?_
      refine lv_iload hx hb dX2_lowerDegree_73 (lv_at hl 5 rfl) ?_
      refine lv_isub hx hb dX2_lowerDegree_75 ?_
      refine lv_iload hx hb dX2_lowerDegree_76 (lv_at hl 6 rfl) ?_
      refine lv_isub hx hb dX2_lowerDegree_78 ?_
      obtain ⟨r5, hr5, hf⟩ := bd_use hf
      refine cl_V (wn := (wdX2_lowerDegree G q0 q0_cell q0_top r5 k0_top)) (st1 := []) C hP hD hS (tX2_lowerLine l G q0 q0_cell q0_top k0_cell k0_top p1 ((x5 * (tSTRIDE (x3).toNatClampNeg)) + (x6 * (tSTRIDE (x4).toNatClampNeg))) ((p2 - x5) - x6) r5 hr5) (cwV 3 hts gX2_lowerDegree_X2_lowerLine rfl rfl rfl (by decide +kernel) ⟨Nat.le_of_ble_eq_true rfl, Nat.le_of_ble_eq_true rfl⟩) [0, 1, 2] [] [0, 1, 2] rfl rfl rfl rfl (by decide) rfl rfl (ci := 2) (q0 := 0) rfl rfl rfl rfl hl.1 rfl rfl (Nat.le_of_ble_eq_true rfl) dX2_lowerDegree_79 (fun H locs hP hD hS => ?_)
      obtain ⟨y6, ey6⟩ : ∃ z : Int32, z = x6 + (1 : Int32) := ⟨_, rfl⟩
      have hf := nm_use ey6 hf
      refine lv_iinc (v := y6) (lv' := [(6, .int y6), (0, .ref q0), (1, .int p1), (2, .int p2), (3, .int x3), (4, .int x4), (5, .int x5)]) hx hb dX2_lowerDegree_82 hl (k := 6) rfl (by rw [ey6]; rfl) (by decide) rfl (fun ls hl => ?_)
      refine lv_goto (tgt := 40) hx hb dX2_lowerDegree_85 (by decide) ?_
      exact ih r5 x3 x4 x5 y6 _ _ ls hf hP hD hS (lv_sub hl [1, 2, 3, 4, 5, 6, 0] rfl)
set_option maxHeartbeats 4000000 in
set_option maxRecDepth 100000 in
theorem wX2_lowerDegree_26 {p : Program} {l : Launch} {e : Env} {s : State} {m : MethodId} {args : Array Value} {below : List Frame} {meth : Method} {c : Code} {G : GX} {A : Nat → Prop} (C : Cx p s m args meth c cX2_lowerDegree 7 none wsX2_lowerDegree RX2 G A) (q0 : Nat) (q0_cell : Nat) (q0_top : Nat) (k0_top : Nat → Int32) (p1 : Int32) (p2 : Int32) (res : (Nat → Int64)) (n : Nat) : ∀ (k0_cell : Nat → Int64) (x3 : Int32) (x4 : Int32) (x5 : Int32) (H : Heap) (locs : List Loc) (ls : Array Slot), fX2_lowerDegree_L26 k0_top p1 p2 n k0_cell x3 x4 x5 = some res → va_P G.1 vwCl (wdX2_lowerDegree G q0 q0_cell q0_top k0_cell k0_top) H → va_D A (wdX2_lowerDegree G q0 q0_cell q0_top k0_cell k0_top) → va_S A s.heap H locs → lv_has ls 7 [(0, .ref q0), (1, .int p1), (2, .int p2), (3, .int x3), (4, .int x4), (5, .int x5)] → glX2_lowerDegree p l e s m args below meth c G A q0 q0_cell q0_top k0_top res H locs 26 ls [] := by
  obtain ⟨hx, hb, hml, hown, hts, hr, hlocks, hA, hG⟩ := id C
  induction n with
  | zero => intro k0_cell x3 x4 x5 H locs ls hf hP hD hS hl; cases hf
  | succ n ih =>
    intro k0_cell x3 x4 x5 H locs ls hf hP hD hS hl
    simp only [fX2_lowerDegree_L26] at hf
    refine lv_iload hx hb dX2_lowerDegree_26 (lv_at hl 5 rfl) ?_
    refine lv_aload_n hx hb dX2_lowerDegree_28 rfl (lv_at hl 0 rfl) ?_
    refine va_get (D := G.1) (ci := 2) (v := .ref q0_top) (C := RX2) (T := TX2) (N := 2) hx hb hts nX2_lowerDegree_X2 hown hG.1 hP 0 rfl rfl 1 (by decide) (hts _ mX2_lowerDegree_0) (fun _ h9 => h9) rfl dX2_lowerDegree_29 ?_
    refine lv_iload_n hx hb dX2_lowerDegree_32 rfl (lv_at hl 3 rfl) ?_
    obtain ⟨hin, hf⟩ := gI_use hf
    refine va_iald hx hb hG.1 hP 2 0 rfl rfl hin dX2_lowerDegree_33 ?_
    refine lv_icmp_gt (tgt := 94) hx hb dX2_lowerDegree_34 (by decide) (fun hc => ?_) (fun hc => ?_)
    · have hf := if_t hc hf
      cases hf
      exact rt_v C hP hD hS dX2_lowerDegree_94
    · have hf := if_f hc hf
      refine lv_iconst (v := (0 : Int32)) hx hb dX2_lowerDegree_37 (by decide) ?_
      refine lv_istore (lv' := [(6, .int (0 : Int32)), (0, .ref q0), (1, .int p1), (2, .int p2), (3, .int x3), (4, .int x4), (5, .int x5)]) hx hb dX2_lowerDegree_38 hl (by decide) rfl (fun ls hl => ?_)
      exact wX2_lowerDegree_40 C q0 q0_cell q0_top k0_top p1 p2 res (fX2_lowerDegree_L26 k0_top p1 p2 n) ih fu k0_cell x3 x4 x5 (0 : Int32) _ _ ls hf hP hD hS (lv_sub hl [1, 2, 3, 4, 5, 6, 0] rfl)
set_option maxHeartbeats 4000000 in
set_option maxRecDepth 100000 in
theorem wX2_lowerDegree_10 {p : Program} {l : Launch} {e : Env} {s : State} {m : MethodId} {args : Array Value} {below : List Frame} {meth : Method} {c : Code} {G : GX} {A : Nat → Prop} (C : Cx p s m args meth c cX2_lowerDegree 7 none wsX2_lowerDegree RX2 G A) (q0 : Nat) (q0_cell : Nat) (q0_top : Nat) (k0_top : Nat → Int32) (p1 : Int32) (p2 : Int32) (res : (Nat → Int64)) : ∀ (k0_cell : Nat → Int64) (s0 : Int32) (H : Heap) (locs : List Loc) (ls : Array Slot), fX2_lowerDegree_b10 k0_top p1 p2 k0_cell s0 = some res → va_P G.1 vwCl (wdX2_lowerDegree G q0 q0_cell q0_top k0_cell k0_top) H → va_D A (wdX2_lowerDegree G q0 q0_cell q0_top k0_cell k0_top) → va_S A s.heap H locs → lv_has ls 7 [(0, .ref q0), (1, .int p1), (2, .int p2)] → glX2_lowerDegree p l e s m args below meth c G A q0 q0_cell q0_top k0_top res H locs 10 ls [.int s0] := by
  obtain ⟨hx, hb, hml, hown, hts, hr, hlocks, hA, hG⟩ := id C
  intro k0_cell s0 H locs ls hf hP hD hS hl
  unfold fX2_lowerDegree_b10 at hf
  refine lv_istore_n (lv' := [(3, .int s0), (0, .ref q0), (1, .int p1), (2, .int p2)]) hx hb dX2_lowerDegree_10 rfl hl (by decide) rfl (fun ls hl => ?_)
  refine lv_iload_n hx hb dX2_lowerDegree_11 rfl (lv_at hl 2 rfl) ?_
  refine lv_iconst (v := (3 : Int32)) hx hb dX2_lowerDegree_12 (by decide) ?_
  refine lv_icmp_ne (tgt := 20) hx hb dX2_lowerDegree_13 (by decide) (fun hc => ?_) (fun hc => ?_)
  · have hf := if_f hc hf
    refine lv_iconst (v := (4 : Int32)) hx hb dX2_lowerDegree_20 (by decide) ?_
    refine lv_istore (lv' := [(4, .int (4 : Int32)), (3, .int s0), (0, .ref q0), (1, .int p1), (2, .int p2)]) hx hb dX2_lowerDegree_21 hl (by decide) rfl (fun ls hl => ?_)
    refine lv_iconst (v := (0 : Int32)) hx hb dX2_lowerDegree_23 (by decide) ?_
    refine lv_istore (lv' := [(5, .int (0 : Int32)), (4, .int (4 : Int32)), (3, .int s0), (0, .ref q0), (1, .int p1), (2, .int p2)]) hx hb dX2_lowerDegree_24 hl (by decide) rfl (fun ls hl => ?_)
    exact wX2_lowerDegree_26 C q0 q0_cell q0_top k0_top p1 p2 res fu k0_cell s0 (4 : Int32) (0 : Int32) _ _ ls hf hP hD hS (lv_sub hl [3, 4, 5, 2, 1, 0] rfl)
  · have hf := if_t hc hf
    refine lv_iconst (v := (2 : Int32)) hx hb dX2_lowerDegree_16 (by decide) ?_
    refine lv_goto (tgt := 21) hx hb dX2_lowerDegree_17 (by decide) ?_
    refine lv_istore (lv' := [(4, .int (2 : Int32)), (3, .int s0), (0, .ref q0), (1, .int p1), (2, .int p2)]) hx hb dX2_lowerDegree_21 hl (by decide) rfl (fun ls hl => ?_)
    refine lv_iconst (v := (0 : Int32)) hx hb dX2_lowerDegree_23 (by decide) ?_
    refine lv_istore (lv' := [(5, .int (0 : Int32)), (4, .int (2 : Int32)), (3, .int s0), (0, .ref q0), (1, .int p1), (2, .int p2)]) hx hb dX2_lowerDegree_24 hl (by decide) rfl (fun ls hl => ?_)
    exact wX2_lowerDegree_26 C q0 q0_cell q0_top k0_top p1 p2 res fu k0_cell s0 (2 : Int32) (0 : Int32) _ _ ls hf hP hD hS (lv_sub hl [3, 4, 5, 2, 1, 0] rfl)
set_option maxHeartbeats 4000000 in
set_option maxRecDepth 100000 in
theorem tX2_lowerDegree (l : Launch) (G : GX) (q0 : Nat) (q0_cell : Nat) (q0_top : Nat) (k0_cell : Nat → Int64) (k0_top : Nat → Int32) (p1 : Int32) (p2 : Int32) (res : (Nat → Int64)) (hf : fX2_lowerDegree k0_cell k0_top p1 p2 = some res) : Ct l yX2_lowerDegree wsX2_lowerDegree rmX2_lowerDegree G [.ref q0, .int p1, .int p2] (wdX2_lowerDegree G q0 q0_cell q0_top k0_cell k0_top) (wdX2_lowerDegree G q0 q0_cell q0_top res k0_top) none := by
  refine Ct.of (cc := cX2_lowerDegree) (nL := 7) (ret := none) (by decide) rfl (Nat.le_of_ble_eq_true rfl) rfl ?_
  intro p e s m below meth c A ls C hP hD hl
  obtain ⟨hx, hb, hml, hown, hts, hr, hlocks, hA, hG⟩ := id C
  have hS : va_S A s.heap s.heap [] := va_S.rf
  unfold fX2_lowerDegree at hf
  refine lv_iload_n hx hb dX2_lowerDegree_0 rfl (lv_at hl 1 rfl) ?_
  refine lv_iconst (v := (1 : Int32)) hx hb dX2_lowerDegree_1 (by decide) ?_
  refine lv_icmp_ne (tgt := 9) hx hb dX2_lowerDegree_2 (by decide) (fun hc => ?_) (fun hc => ?_)
  · have hf := if_f hc hf
    refine lv_iconst (v := (1 : Int32)) hx hb dX2_lowerDegree_9 (by decide) ?_
    exact wX2_lowerDegree_10 C q0 q0_cell q0_top k0_top p1 p2 res k0_cell (1 : Int32) _ _ ls hf hP hD hS (lv_sub hl [0, 1, 2] rfl)
  · have hf := if_t hc hf
    refine lv_iconst (v := (3 : Int32)) hx hb dX2_lowerDegree_5 (by decide) ?_
    refine lv_goto (tgt := 10) hx hb dX2_lowerDegree_6 (by decide) ?_
    exact wX2_lowerDegree_10 C q0 q0_cell q0_top k0_top p1 p2 res k0_cell (3 : Int32) _ _ ls hf hP hD hS (lv_sub hl [0, 1, 2] rfl)
abbrev wdX2_differ (G : GX) (q0 : Nat) (q0_cell : Nat) (q0_top : Nat) (k0_cell : Nat → Int64) (k0_top : Nat → Int32) : va_W := [(q0, .inr (2, [.ref q0_cell, .ref q0_top])), (q0_cell, .inl (G.2.2.1, 3024, .inr (.inl k0_cell))), (q0_top, .inl (G.2.1, 5, .inl k0_top))]
abbrev rmX2_differ : Room := { frames := 3, cells := 0, slots := 0, locals := 115 }
abbrev glX2_differ (p : Program) (l : Launch) (e : Env) (s : State) (m : MethodId) (args : Array Value) (below : List Frame) (meth : Method) (c : Code) (G : GX) (A : Nat → Prop) (q0 : Nat) (q0_cell : Nat) (q0_top : Nat) (res : (Nat → Int64) × (Nat → Int32)) (H : Heap) (locs : List Loc) (pc : Nat) (ls : Array Slot) (st : List Value) : Prop := W p l e rmX2_differ s m args below meth c H locs 0 0 (MQ below (ctQ G A (wdX2_differ G q0 q0_cell q0_top res.1 res.2) none) args s 0 0 A) (F0 m pc ls st)
set_option maxRecDepth 20000 in
theorem mX2_differ_0 : Cond.fieldLink RX2 15 "SchubertDesk$Grid" "top" "[I" ∈ wsX2_differ := by decide +kernel
set_option maxRecDepth 20000 in
theorem mX2_differ_1 : Cond.methodLink RX2 45 Lib.Math.max.name ∈ wsX2_differ := by decide +kernel
set_option maxRecDepth 20000 in
theorem mX2_differ_2 : Cond.static Lib.Math.max.name ∈ wsX2_differ := by decide +kernel
set_option maxRecDepth 20000 in
theorem mX2_differ_3 : Cond.initialized "java/lang/Math" ∈ wsX2_differ := by decide +kernel
set_option maxRecDepth 20000 in
theorem mX2_differ_4 : Cond.code Lib.Math.max.name Lib.Math.max.code 2 (some .int) ∈ wsX2_differ := by decide +kernel
set_option maxRecDepth 20000 in
theorem nX2_differ_X2 : ∀ w ∈ u_ws RX2 TX2 2, w ∈ wsX2_differ := by decide +kernel
set_option maxHeartbeats 4000000 in
set_option maxRecDepth 100000 in
theorem wX2_differ_14 {p : Program} {l : Launch} {e : Env} {s : State} {m : MethodId} {args : Array Value} {below : List Frame} {meth : Method} {c : Code} {G : GX} {A : Nat → Prop} (C : Cx p s m args meth c cX2_differ 5 none wsX2_differ RX2 G A) (q0 : Nat) (q0_cell : Nat) (q0_top : Nat) (p1 : Int32) (p2 : Int32) (p3 : Int32) (res : (Nat → Int64) × (Nat → Int32)) (n : Nat) : ∀ (k0_cell : Nat → Int64) (k0_top : Nat → Int32) (x4 : Int32) (H : Heap) (locs : List Loc) (ls : Array Slot), fX2_differ_L14 p1 p2 p3 n k0_cell k0_top x4 = some res → va_P G.1 vwCl (wdX2_differ G q0 q0_cell q0_top k0_cell k0_top) H → va_D A (wdX2_differ G q0 q0_cell q0_top k0_cell k0_top) → va_S A s.heap H locs → lv_has ls 5 [(0, .ref q0), (1, .int p1), (3, .int p3), (4, .int x4)] → glX2_differ p l e s m args below meth c G A q0 q0_cell q0_top res H locs 14 ls [] := by
  obtain ⟨hx, hb, hml, hown, hts, hr, hlocks, hA, hG⟩ := id C
  induction n with
  | zero => intro k0_cell k0_top x4 H locs ls hf hP hD hS hl; cases hf
  | succ n ih =>
    intro k0_cell k0_top x4 H locs ls hf hP hD hS hl
    simp only [fX2_differ_L14] at hf
    refine lv_iload hx hb dX2_differ_14 (lv_at hl 3 rfl) ?_
    refine lv_iload_n hx hb dX2_differ_16 rfl (lv_at hl 2 rfl) ?_
    refine lv_icmp_gt (tgt := 33) hx hb dX2_differ_17 (by decide) (fun hc => ?_) (fun hc => ?_)
    · have hf := if_t hc hf
      refine lv_aload_n hx hb dX2_differ_33 rfl (lv_at hl 0 rfl) ?_
      refine va_get (D := G.1) (ci := 2) (v := .ref q0_top) (C := RX2) (T := TX2) (N := 2) hx hb hts nX2_differ_X2 hown hG.1 hP 0 rfl rfl 1 (by decide) (hts _ mX2_differ_0) (fun _ h9 => h9) rfl dX2_differ_34 ?_
      refine lv_iload_n hx hb dX2_differ_37 rfl (lv_at hl 1 rfl) ?_
      obtain ⟨hin, hf⟩ := gI_use hf
      refine va_iald hx hb hG.1 hP 2 0 rfl rfl hin dX2_differ_38 ?_
      refine lv_aload_n hx hb dX2_differ_39 rfl (lv_at hl 0 rfl) ?_
      refine va_get (D := G.1) (ci := 2) (v := .ref q0_top) (C := RX2) (T := TX2) (N := 2) hx hb hts nX2_differ_X2 hown hG.1 hP 0 rfl rfl 1 (by decide) (hts _ mX2_differ_0) (fun _ h9 => h9) rfl dX2_differ_40 ?_
      refine lv_iload_n hx hb dX2_differ_43 rfl (lv_at hl 1 rfl) ?_
      refine lv_iconst (v := (1 : Int32)) hx hb dX2_differ_44 (by decide) ?_
      refine lv_iadd hx hb dX2_differ_45 ?_
      obtain ⟨hin, hf⟩ := gI_use hf
      refine va_iald hx hb hG.1 hP 2 0 rfl rfl hin dX2_differ_46 ?_
      refine va_mmax hx hb (hml.trans hl.1.symm) hown (hts _ mX2_differ_1) (hts _ mX2_differ_2) (hts _ mX2_differ_3) (hts _ mX2_differ_4) (Nat.le_of_ble_eq_true rfl) (Nat.le_of_ble_eq_true rfl) (Nat.zero_le _) (Nat.zero_le _) dX2_differ_47 ?_
      refine lv_topi (fun y3 ey3 => ?_)
      have hf := nm_use ey3 hf
      refine lv_istore (lv' := [(4, .int y3), (0, .ref q0), (1, .int p1), (3, .int p3)]) hx hb dX2_differ_50 hl (by decide) rfl (fun ls hl => ?_)
      refine lv_aload_n hx hb dX2_differ_52 rfl (lv_at hl 1 rfl) ?_
      refine va_get (D := G.1) (ci := 2) (v := .ref q0_top) (C := RX2) (T := TX2) (N := 2) hx hb hts nX2_differ_X2 hown hG.1 hP 0 rfl rfl 1 (by decide) (hts _ mX2_differ_0) (fun _ h9 => h9) rfl dX2_differ_53 ?_
      refine lv_iload_n hx hb dX2_differ_56 rfl (lv_at hl 2 rfl) ?_
      refine lv_iload hx hb dX2_differ_57 (lv_at hl 0 rfl) ?_
      refine lv_iconst (v := (1 : Int32)) hx hb dX2_differ_59 (by decide) ?_
      refine lv_isub hx hb dX2_differ_60 ?_
      refine lv_iconst (v := (0 : Int32)) hx hb dX2_differ_61 (by decide) ?_
      refine va_mmax hx hb (hml.trans hl.1.symm) hown (hts _ mX2_differ_1) (hts _ mX2_differ_2) (hts _ mX2_differ_3) (hts _ mX2_differ_4) (Nat.le_of_ble_eq_true rfl) (Nat.le_of_ble_eq_true rfl) (Nat.zero_le _) (Nat.zero_le _) dX2_differ_62 ?_
      obtain ⟨hin, hf⟩ := pI_use hf
      refine va_iast hx hb hG.1 hP hD hS 2 0 rfl rfl hin dX2_differ_65 (fun H locs hP hD hS => ?_)
      have hP : va_P G.1 vwCl (wdX2_differ G q0 q0_cell q0_top k0_cell (upd k0_top (p1).toNatClampNeg (if (y3 - (1 : Int32)) < (0 : Int32) then (0 : Int32) else (y3 - (1 : Int32))))) H := hP
      have hD : va_D A (wdX2_differ G q0 q0_cell q0_top k0_cell (upd k0_top (p1).toNatClampNeg (if (y3 - (1 : Int32)) < (0 : Int32) then (0 : Int32) else (y3 - (1 : Int32))))) := hD
      refine lv_aload_n hx hb dX2_differ_66 rfl (lv_at hl 1 rfl) ?_
      refine va_get (D := G.1) (ci := 2) (v := .ref q0_top) (C := RX2) (T := TX2) (N := 2) hx hb hts nX2_differ_X2 hown hG.1 hP 0 rfl rfl 1 (by decide) (hts _ mX2_differ_0) (fun _ h9 => h9) rfl dX2_differ_67 ?_
      refine lv_iload_n hx hb dX2_differ_70 rfl (lv_at hl 2 rfl) ?_
      refine lv_iconst (v := (1 : Int32)) hx hb dX2_differ_71 (by decide) ?_
      refine lv_iadd hx hb dX2_differ_72 ?_
      refine lv_aload_n hx hb dX2_differ_73 rfl (lv_at hl 1 rfl) ?_
      refine va_get (D := G.1) (ci := 2) (v := .ref q0_top) (C := RX2) (T := TX2) (N := 2) hx hb hts nX2_differ_X2 hown hG.1 hP 0 rfl rfl 1 (by decide) (hts _ mX2_differ_0) (fun _ h9 => h9) rfl dX2_differ_74 ?_
      refine lv_iload_n hx hb dX2_differ_77 rfl (lv_at hl 2 rfl) ?_
      obtain ⟨hin, hf⟩ := gI_use hf
      refine va_iald hx hb hG.1 hP 2 0 rfl rfl hin dX2_differ_78 ?_
      obtain ⟨hin, hf⟩ := pI_use hf
      refine va_iast hx hb hG.1 hP hD hS 2 0 rfl rfl hin dX2_differ_79 (fun H locs hP hD hS => ?_)
      have hP : va_P G.1 vwCl (wdX2_differ G q0 q0_cell q0_top k0_cell (upd (upd k0_top (p1).toNatClampNeg (if (y3 - (1 : Int32)) < (0 : Int32) then (0 : Int32) else (y3 - (1 : Int32)))) ((p1 + (1 : Int32))).toNatClampNeg ((upd k0_top (p1).toNatClampNeg (if (y3 - (1 : Int32)) < (0 : Int32) then (0 : Int32) else (y3 - (1 : Int32)))) (p1).toNatClampNeg))) H := hP
      have hD : va_D A (wdX2_differ G q0 q0_cell q0_top k0_cell (upd (upd k0_top (p1).toNatClampNeg (if (y3 - (1 : Int32)) < (0 : Int32) then (0 : Int32) else (y3 - (1 : Int32)))) ((p1 + (1 : Int32))).toNatClampNeg ((upd k0_top (p1).toNatClampNeg (if (y3 - (1 : Int32)) < (0 : Int32) then (0 : Int32) else (y3 - (1 : Int32)))) (p1).toNatClampNeg))) := hD
      cases hf
      exact rt_v C hP hD hS dX2_differ_80
    · have hf := if_f hc hf
      refine lv_aload_n hx hb dX2_differ_20 rfl (lv_at hl 0 rfl) ?_
      refine lv_iload_n hx hb dX2_differ_21 rfl (lv_at hl 1 rfl) ?_
      refine lv_iload hx hb dX2_differ_22 (lv_at hl 3 rfl) ?_
      obtain ⟨r7, hr7, hf⟩ := bd_use hf
      refine cl_V (wn := (wdX2_differ G q0 q0_cell q0_top r7 k0_top)) (st1 := []) C hP hD hS (tX2_lowerDegree l G q0 q0_cell q0_top k0_cell k0_top p1 x4 r7 hr7) (cwV 2 hts gX2_differ_X2_lowerDegree rfl rfl rfl (by decide +kernel) ⟨Nat.le_of_ble_eq_true rfl, Nat.le_of_ble_eq_true rfl⟩) [0, 1, 2] [] [0, 1, 2] rfl rfl rfl rfl (by decide) rfl rfl (ci := 2) (q0 := 0) rfl rfl rfl rfl hl.1 rfl rfl (Nat.le_of_ble_eq_true rfl) dX2_differ_24 (fun H locs hP hD hS => ?_)
      obtain ⟨y8, ey8⟩ : ∃ z : Int32, z = x4 + (1 : Int32) := ⟨_, rfl⟩
      have hf := nm_use ey8 hf
      refine lv_iinc (v := y8) (lv' := [(4, .int y8), (0, .ref q0), (1, .int p1), (3, .int p3)]) hx hb dX2_differ_27 hl (k := 3) rfl (by rw [ey8]; rfl) (by decide) rfl (fun ls hl => ?_)
      refine lv_goto (tgt := 14) hx hb dX2_differ_30 (by decide) ?_
      exact ih r7 k0_top y8 _ _ ls hf hP hD hS (lv_sub hl [1, 2, 3, 0] rfl)
set_option maxHeartbeats 4000000 in
set_option maxRecDepth 100000 in
theorem tX2_differ (l : Launch) (G : GX) (q0 : Nat) (q0_cell : Nat) (q0_top : Nat) (k0_cell : Nat → Int64) (k0_top : Nat → Int32) (p1 : Int32) (p2 : Int32) (p3 : Int32) (res : (Nat → Int64) × (Nat → Int32)) (hf : fX2_differ k0_cell k0_top p1 p2 p3 = some res) : Ct l yX2_differ wsX2_differ rmX2_differ G [.ref q0, .int p1, .int p2, .int p3] (wdX2_differ G q0 q0_cell q0_top k0_cell k0_top) (wdX2_differ G q0 q0_cell q0_top res.1 res.2) none := by
  refine Ct.of (cc := cX2_differ) (nL := 5) (ret := none) (by decide) rfl (Nat.le_of_ble_eq_true rfl) rfl ?_
  intro p e s m below meth c A ls C hP hD hl
  obtain ⟨hx, hb, hml, hown, hts, hr, hlocks, hA, hG⟩ := id C
  have hS : va_S A s.heap s.heap [] := va_S.rf
  unfold fX2_differ at hf
  refine lv_iload_n hx hb dX2_differ_0 rfl (lv_at hl 1 rfl) ?_
  refine lv_iconst (v := (1 : Int32)) hx hb dX2_differ_1 (by decide) ?_
  refine lv_icmp_lt (tgt := 10) hx hb dX2_differ_2 (by decide) (fun hc => ?_) (fun hc => ?_)
  · have hf := if_t hc hf
    cases hf
    exact rt_v C hP hD hS dX2_differ_10
  · have hf := if_f hc hf
    refine lv_iload_n hx hb dX2_differ_5 rfl (lv_at hl 1 rfl) ?_
    refine lv_iconst (v := (4 : Int32)) hx hb dX2_differ_6 (by decide) ?_
    refine lv_icmp_lt (tgt := 11) hx hb dX2_differ_7 (by decide) (fun hc => ?_) (fun hc => ?_)
    · have hf := if_t hc hf
      refine lv_iload_n hx hb dX2_differ_11 rfl (lv_at hl 2 rfl) ?_
      refine lv_istore (lv' := [(4, .int p2), (0, .ref q0), (1, .int p1), (2, .int p2), (3, .int p3)]) hx hb dX2_differ_12 hl (by decide) rfl (fun ls hl => ?_)
      exact wX2_differ_14 C q0 q0_cell q0_top p1 p2 p3 res fu k0_cell k0_top p2 _ _ ls hf hP hD hS (lv_sub hl [1, 2, 4, 0] rfl)
    · have hf := if_f hc hf
      cases hf
      exact rt_v C hP hD hS dX2_differ_10
abbrev wdX3_forget (G : GX) (q0 : Nat) (q0_counts : Nat) (q0_numbers : Nat) (k0_known : Int32) : va_W := [(q0, .inr (3, [.ref q0_counts, .ref q0_numbers, .int k0_known]))]
abbrev rmX3_forget : Room := { frames := 0, cells := 0, slots := 0, locals := 0 }
abbrev glX3_forget (p : Program) (l : Launch) (e : Env) (s : State) (m : MethodId) (args : Array Value) (below : List Frame) (meth : Method) (c : Code) (G : GX) (A : Nat → Prop) (q0 : Nat) (q0_counts : Nat) (q0_numbers : Nat) (res : Int32) (H : Heap) (locs : List Loc) (pc : Nat) (ls : Array Slot) (st : List Value) : Prop := W p l e rmX3_forget s m args below meth c H locs 0 0 (MQ below (ctQ G A (wdX3_forget G q0 q0_counts q0_numbers res) none) args s 0 0 A) (F0 m pc ls st)
set_option maxRecDepth 20000 in
theorem mX3_forget_0 : Cond.fieldLink RX3 27 "SchubertDesk$Parts" "known" "Z" ∈ wsX3_forget := by decide +kernel
set_option maxRecDepth 20000 in
theorem nX3_forget_X3 : ∀ w ∈ u_ws RX3 TX3 3, w ∈ wsX3_forget := by decide +kernel
set_option maxHeartbeats 4000000 in
set_option maxRecDepth 100000 in
theorem tX3_forget (l : Launch) (G : GX) (q0 : Nat) (q0_counts : Nat) (q0_numbers : Nat) (k0_known : Int32) (res : Int32) (hf : fX3_forget k0_known = some res) : Ct l yX3_forget wsX3_forget rmX3_forget G [.ref q0] (wdX3_forget G q0 q0_counts q0_numbers k0_known) (wdX3_forget G q0 q0_counts q0_numbers res) none := by
  refine Ct.of (cc := cX3_forget) (nL := 1) (ret := none) (by decide) rfl (Nat.le_of_ble_eq_true rfl) rfl ?_
  intro p e s m below meth c A ls C hP hD hl
  obtain ⟨hx, hb, hml, hown, hts, hr, hlocks, hA, hG⟩ := id C
  have hS : va_S A s.heap s.heap [] := va_S.rf
  unfold fX3_forget at hf
  refine lv_aload_n hx hb dX3_forget_0 rfl (lv_at hl 0 rfl) ?_
  refine lv_iconst (v := (0 : Int32)) hx hb dX3_forget_1 (by decide) ?_
  refine va_put (D := G.1) (ci := 3) (v := .int (0 : Int32)) (ty := .boolean) (C := RX3) (T := TX3) (N := 3) hx hb hts nX3_forget_X3 tyX3 tyX3_ok nmX3 hown hG.1 hP hD hS 0 rfl rfl 2 (by decide) (hts _ mX3_forget_0) (fun _ h9 => h9) rfl (by decide +kernel) rfl rfl (Nat.le_of_ble_eq_true rfl) dX3_forget_2 (fun H locs hP hD hS => ?_)
  have hP : va_P G.1 vwCl (wdX3_forget G q0 q0_counts q0_numbers (0 : Int32)) H := hP
  have hD : va_D A (wdX3_forget G q0 q0_counts q0_numbers (0 : Int32)) := hD
  cases hf
  exact rt_v C hP hD hS dX3_forget_5
