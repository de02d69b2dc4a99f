abbrev wdX5_bitOf (G : GX) : va_W := []
abbrev rmX5_bitOf : Room := { frames := 0, cells := 0, slots := 0, locals := 0 }
abbrev glX5_bitOf (p : Program) (l : Launch) (e : Env) (s : State) (m : MethodId) (args : Array Value) (below : List Frame) (meth : Method) (c : Code) (G : GX) (A : Nat → Prop) (res : Int32) (H : Heap) (locs : List Loc) (pc : Nat) (ls : Array Slot) (st : List Value) : Prop := W p l e rmX5_bitOf s m args below meth c H locs 0 0 (MQ below (ctQ G A (wdX5_bitOf G) (some (.int res))) args s 0 0 A) (F0 m pc ls st)
set_option maxRecDepth 20000 in
theorem mX5_bitOf_0 : Cond.fieldLink RX5 239 "SchubertDesk" "FIRST_BIT" "[I" ∈ wsX5_bitOf := by decide +kernel
set_option maxHeartbeats 4000000 in
set_option maxRecDepth 100000 in
theorem tX5_bitOf (l : Launch) (G : GX) (p0 : Int32) (p1 : Int32) (res : Int32) (hf : fX5_bitOf p0 p1 = some res) : Ct l yX5_bitOf wsX5_bitOf rmX5_bitOf G [.int p0, .int p1] (wdX5_bitOf G) (wdX5_bitOf G) (some (.int res)) := by
  refine Ct.of (cc := cX5_bitOf) (nL := 2) (ret := (some .int)) (by decide) rfl (Nat.le_of_ble_eq_true rfl) rfl ?_
  intro p e s m below meth c A ls C hP hD hl
  obtain ⟨hx, hb, hml, hown, hts, hr, hlocks, hA, hG⟩ := id C
  have hS : va_S A s.heap s.heap [] := va_S.rf
  unfold fX5_bitOf at hf
  refine lv_iload_n hx hb dX5_bitOf_0 rfl (lv_at hl 0 rfl) ?_
  refine lv_iconst (v := (1 : Int32)) hx hb dX5_bitOf_1 (by decide) ?_
  refine lv_icmp_lt (tgt := 10) hx hb dX5_bitOf_2 (by decide) (fun hc => ?_) (fun hc => ?_)
  · have hf := if_t hc hf
    refine lv_iconst (v := (0 : Int32)) hx hb dX5_bitOf_10 (by decide) ?_
    refine lv_goto (tgt := 25) hx hb dX5_bitOf_11 (by decide) ?_
    cases hf
    exact rt_i C hP hD hS dX5_bitOf_25
  · have hf := if_f hc hf
    refine lv_iload_n hx hb dX5_bitOf_5 rfl (lv_at hl 0 rfl) ?_
    refine lv_iconst (v := (4 : Int32)) hx hb dX5_bitOf_6 (by decide) ?_
    refine lv_icmp_le (tgt := 14) hx hb dX5_bitOf_7 (by decide) (fun hc => ?_) (fun hc => ?_)
    · have hf := if_t hc hf
      refine lv_iconst (v := (1 : Int32)) hx hb dX5_bitOf_14 (by decide) ?_
      refine va_gets hx hb hG.2.2.2.2.1.1 hS hown (hts _ mX5_bitOf_0) (fun _ h9 => h9) dX5_bitOf_15 ?_
      refine lv_iload_n hx hb dX5_bitOf_18 rfl (lv_at hl 0 rfl) ?_
      obtain ⟨hin, hf⟩ := gI_use hf
      refine va_ti hx hb hG.2.2.2.2.1.2 hS hin rfl dX5_bitOf_19 ?_
      refine lv_iload_n hx hb dX5_bitOf_20 rfl (lv_at hl 1 rfl) ?_
      refine lv_iadd hx hb dX5_bitOf_21 ?_
      refine lv_iconst (v := (1 : Int32)) hx hb dX5_bitOf_22 (by decide) ?_
      refine lv_isub hx hb dX5_bitOf_23 ?_
      refine lv_ishl hx hb dX5_bitOf_24 ?_
      cases hf
      exact rt_i C hP hD hS dX5_bitOf_25
    · have hf := if_f hc hf
      refine lv_iconst (v := (0 : Int32)) hx hb dX5_bitOf_10 (by decide) ?_
      refine lv_goto (tgt := 25) hx hb dX5_bitOf_11 (by decide) ?_
      cases hf
      exact rt_i C hP hD hS dX5_bitOf_25
abbrev wdX5_isCrossAt (G : GX) : va_W := []
abbrev rmX5_isCrossAt : Room := { frames := 1, cells := 0, slots := 0, locals := 21 }
abbrev glX5_isCrossAt (p : Program) (l : Launch) (e : Env) (s : State) (m : MethodId) (args : Array Value) (below : List Frame) (meth : Method) (c : Code) (G : GX) (A : Nat → Prop) (res : Int32) (H : Heap) (locs : List Loc) (pc : Nat) (ls : Array Slot) (st : List Value) : Prop := W p l e rmX5_isCrossAt s m args below meth c H locs 0 0 (MQ below (ctQ G A (wdX5_isCrossAt G) (some (.int res))) args s 0 0 A) (F0 m pc ls st)
set_option maxHeartbeats 4000000 in
set_option maxRecDepth 100000 in
theorem tX5_isCrossAt (l : Launch) (G : GX) (p0 : Int32) (p1 : Int32) (p2 : Int32) (res : Int32) (hf : fX5_isCrossAt p0 p1 p2 = some res) : Ct l yX5_isCrossAt wsX5_isCrossAt rmX5_isCrossAt G [.int p0, .int p1, .int p2] (wdX5_isCrossAt G) (wdX5_isCrossAt G) (some (.int res)) := by
  refine Ct.of (cc := cX5_isCrossAt) (nL := 3) (ret := (some .boolean)) (by decide) rfl (Nat.le_of_ble_eq_true rfl) rfl ?_
  intro p e s m below meth c A ls C hP hD hl
  obtain ⟨hx, hb, hml, hown, hts, hr, hlocks, hA, hG⟩ := id C
  have hS : va_S A s.heap s.heap [] := va_S.rf
  unfold fX5_isCrossAt at hf
  refine lv_iload_n hx hb dX5_isCrossAt_0 rfl (lv_at hl 1 rfl) ?_
  refine lv_iconst (v := (1 : Int32)) hx hb dX5_isCrossAt_1 (by decide) ?_
  refine lv_icmp_lt (tgt := 22) hx hb dX5_isCrossAt_2 (by decide) (fun hc => ?_) (fun hc => ?_)
  · have hf := if_t hc hf
    refine lv_iconst (v := (0 : Int32)) hx hb dX5_isCrossAt_22 (by decide) ?_
    cases hf
    exact rt_z C (Or.inl rfl) hP hD hS dX5_isCrossAt_23
  · have hf := if_f hc hf
    refine lv_iload_n hx hb dX5_isCrossAt_5 rfl (lv_at hl 1 rfl) ?_
    refine lv_iconst (v := (4 : Int32)) hx hb dX5_isCrossAt_6 (by decide) ?_
    refine lv_icmp_gt (tgt := 22) hx hb dX5_isCrossAt_7 (by decide) (fun hc => ?_) (fun hc => ?_)
    · have hf := if_t hc hf
      refine lv_iconst (v := (0 : Int32)) hx hb dX5_isCrossAt_22 (by decide) ?_
      cases hf
      exact rt_z C (Or.inl rfl) hP hD hS dX5_isCrossAt_23
    · have hf := if_f hc hf
      refine lv_iload_n hx hb dX5_isCrossAt_10 rfl (lv_at hl 2 rfl) ?_
      refine lv_iconst (v := (1 : Int32)) hx hb dX5_isCrossAt_11 (by decide) ?_
      refine lv_icmp_lt (tgt := 22) hx hb dX5_isCrossAt_12 (by decide) (fun hc => ?_) (fun hc => ?_)
      · have hf := if_t hc hf
        refine lv_iconst (v := (0 : Int32)) hx hb dX5_isCrossAt_22 (by decide) ?_
        cases hf
        exact rt_z C (Or.inl rfl) hP hD hS dX5_isCrossAt_23
      · have hf := if_f hc hf
        refine lv_iload_n hx hb dX5_isCrossAt_15 rfl (lv_at hl 2 rfl) ?_
        refine lv_iconst (v := (5 : Int32)) hx hb dX5_isCrossAt_16 (by decide) ?_
        refine lv_iload_n hx hb dX5_isCrossAt_17 rfl (lv_at hl 1 rfl) ?_
        refine lv_isub hx hb dX5_isCrossAt_18 ?_
        refine lv_icmp_le (tgt := 24) hx hb dX5_isCrossAt_19 (by decide) (fun hc => ?_) (fun hc => ?_)
        · have hf := if_t hc hf
          refine lv_iload_n hx hb dX5_isCrossAt_24 rfl (lv_at hl 0 rfl) ?_
          refine lv_iload_n hx hb dX5_isCrossAt_25 rfl (lv_at hl 1 rfl) ?_
          refine lv_iload_n hx hb dX5_isCrossAt_26 rfl (lv_at hl 2 rfl) ?_
          obtain ⟨r1, hr1, hf⟩ := bd_use hf
          refine cl_S (wn := (wdX5_isCrossAt G)) (st1 := [.int r1, .int p0]) C hP hD hS (tX5_bitOf l G p1 p2 r1 hr1) (va_cwS 2 hts gX5_isCrossAt_X5_bitOf rfl rfl rfl (by decide +kernel) ⟨Nat.le_of_ble_eq_true rfl, Nat.le_of_ble_eq_true rfl⟩) [] [] [] rfl rfl rfl rfl (by decide) rfl rfl rfl hl.1 rfl rfl (Nat.le_of_ble_eq_true rfl) dX5_isCrossAt_27 (fun H locs hP hD hS => ?_)
          refine lv_iand hx hb dX5_isCrossAt_30 ?_
          refine lv_if_eq (tgt := 38) hx hb dX5_isCrossAt_31 (by decide) (fun hc => ?_) (fun hc => ?_)
          · have hf := if_t hc hf
            refine lv_iconst (v := (0 : Int32)) hx hb dX5_isCrossAt_38 (by decide) ?_
            cases hf
            exact rt_z C (Or.inl rfl) hP hD hS dX5_isCrossAt_39
          · have hf := if_f hc hf
            refine lv_iconst (v := (1 : Int32)) hx hb dX5_isCrossAt_34 (by decide) ?_
            refine lv_goto (tgt := 39) hx hb dX5_isCrossAt_35 (by decide) ?_
            cases hf
            exact rt_z C (Or.inr rfl) hP hD hS dX5_isCrossAt_39
        · have hf := if_f hc hf
          refine lv_iconst (v := (0 : Int32)) hx hb dX5_isCrossAt_22 (by decide) ?_
          cases hf
          exact rt_z C (Or.inl rfl) hP hD hS dX5_isCrossAt_23
abbrev wdX5_putLadder (G : GX) (q0 : Nat) (q0_first : Nat) (q0_second : Nat) (q0_third : Nat) (q0_list : Nat) (q0_list_items : Nat) (q0_page : Nat) (q0_single : Nat) (q0_parts : Nat) (k0_list_items : Nat → Int32) (k0_list_size : Int32) : va_W := [(q0, .inr (5, [.ref q0_first, .ref q0_second, .ref q0_third, .ref q0_list, .ref q0_page, .ref q0_single, .ref q0_parts])), (q0_list, .inr (0, [.ref q0_list_items, .int k0_list_size])), (q0_list_items, .inl (G.2.1, 32, .inl k0_list_items))]
abbrev rmX5_putLadder : Room := { frames := 2, cells := 0, slots := 0, locals := 83 }
abbrev glX5_putLadder (p : Program) (l : Launch) (e : Env) (s : State) (m : MethodId) (args : Array Value) (below : List Frame) (meth : Method) (c : Code) (G : GX) (A : Nat → Prop) (q0 : Nat) (q0_first : Nat) (q0_second : Nat) (q0_third : Nat) (q0_list : Nat) (q0_list_items : Nat) (q0_page : Nat) (q0_single : Nat) (q0_parts : Nat) (res : (Nat → Int32) × Int32) (H : Heap) (locs : List Loc) (pc : Nat) (ls : Array Slot) (st : List Value) : Prop := W p l e rmX5_putLadder s m args below meth c H locs 0 0 (MQ below (ctQ G A (wdX5_putLadder G q0 q0_first q0_second q0_third q0_list q0_list_items q0_page q0_single q0_parts res.1 res.2) none) args s 0 0 A) (F0 m pc ls st)
set_option maxRecDepth 20000 in
theorem mX5_putLadder_0 : Cond.fieldLink RX5 29 "SchubertDesk" "list" "LSchubertDesk$Ascending;" ∈ wsX5_putLadder := by decide +kernel
set_option maxRecDepth 20000 in
theorem nX5_putLadder_X5 : ∀ w ∈ u_ws RX5 TX5 7, w ∈ wsX5_putLadder := by decide +kernel
set_option maxHeartbeats 4000000 in
set_option maxRecDepth 100000 in
theorem wX5_putLadder_85 {p : Program} {l : Launch} {e : Env} {s : State} {m : MethodId} {args : Array Value} {below : List Frame} {meth : Method} {c : Code} {G : GX} {A : Nat → Prop} (C : Cx p s m args meth c cX5_putLadder 7 none wsX5_putLadder RX5 G A) (q0 : Nat) (q0_first : Nat) (q0_second : Nat) (q0_third : Nat) (q0_list : Nat) (q0_list_items : Nat) (q0_page : Nat) (q0_single : Nat) (q0_parts : Nat) (p1 : Int32) (p2 : Int32) (p3 : Int32) (res : (Nat → Int32) × Int32) (rec26 : (Nat → Int32) → Int32 → Int32 → Option ((Nat → Int32) × Int32)) (hr26 : ∀ (k0_list_items : Nat → Int32) (k0_list_size : Int32) (x4 : Int32) (H : Heap) (locs : List Loc) (ls : Array Slot), rec26 k0_list_items k0_list_size x4 = some res → va_P G.1 vwCl (wdX5_putLadder G q0 q0_first q0_second q0_third q0_list q0_list_items q0_page q0_single q0_parts k0_list_items k0_list_size) H → va_D A (wdX5_putLadder G q0 q0_first q0_second q0_third q0_list q0_list_items q0_page q0_single q0_parts k0_list_items k0_list_size) → va_S A s.heap H locs → lv_has ls 7 [(0, .ref q0), (1, .int p1), (2, .int p2), (3, .int p3), (4, .int x4)] → glX5_putLadder p l e s m args below meth c G A q0 q0_first q0_second q0_third q0_list q0_list_items q0_page q0_single q0_parts res H locs 26 ls []) : ∀ (k0_list_items : Nat → Int32) (k0_list_size : Int32) (x4 : Int32) (x5 : Int32) (x6 : Int32) (H : Heap) (locs : List Loc) (ls : Array Slot), fX5_putLadder_b85 p1 p2 p3 rec26 k0_list_items k0_list_size x4 x5 x6 = some res → va_P G.1 vwCl (wdX5_putLadder G q0 q0_first q0_second q0_third q0_list q0_list_items q0_page q0_single q0_parts k0_list_items k0_list_size) H → va_D A (wdX5_putLadder G q0 q0_first q0_second q0_third q0_list q0_list_items q0_page q0_single q0_parts k0_list_items k0_list_size) → va_S A s.heap H locs → lv_has ls 7 [(0, .ref q0), (1, .int p1), (2, .int p2), (3, .int p3), (4, .int x4), (5, .int x5), (6, .int x6)] → glX5_putLadder p l e s m args below meth c G A q0 q0_first q0_second q0_third q0_list q0_list_items q0_page q0_single q0_parts res H locs 85 ls [] := by
  obtain ⟨hx, hb, hml, hown, hts, hr, hlocks, hA, hG⟩ := id C
  intro k0_list_items k0_list_size x4 x5 x6 H locs ls hf hP hD hS hl
  unfold fX5_putLadder_b85 at hf
  refine lv_iload hx hb dX5_putLadder_85 (lv_at hl 5 rfl) ?_
  refine lv_if_eq (tgt := 95) hx hb dX5_putLadder_87 (by decide) (fun hc => ?_) (fun hc => ?_)
  · have hf := if_t hc hf
    cases hf
    exact rt_v C hP hD hS dX5_putLadder_95
  · have hf := if_f hc hf
    refine lv_iload hx hb dX5_putLadder_90 (lv_at hl 6 rfl) ?_
    refine lv_if_ne (tgt := 96) hx hb dX5_putLadder_92 (by decide) (fun hc => ?_) (fun hc => ?_)
    · have hf := if_f hc hf
      obtain ⟨y1, ey1⟩ : ∃ z : Int32, z = x4 + (-1 : Int32) := ⟨_, rfl⟩
      have hf := nm_use ey1 hf
      refine lv_iinc (v := y1) (lv' := [(4, .int y1), (0, .ref q0), (1, .int p1), (2, .int p2), (3, .int p3), (5, .int x5), (6, .int x6)]) hx hb dX5_putLadder_96 hl (k := 4) rfl (by rw [ey1]; rfl) (by decide) rfl (fun ls hl => ?_)
      refine lv_goto (tgt := 26) hx hb dX5_putLadder_99 (by decide) ?_
      exact hr26 k0_list_items k0_list_size y1 _ _ ls hf hP hD hS (lv_sub hl [1, 2, 3, 4, 0] rfl)
    · have hf := if_t hc hf
      cases hf
      exact rt_v C hP hD hS dX5_putLadder_95
set_option maxHeartbeats 4000000 in
set_option maxRecDepth 100000 in
theorem wX5_putLadder_26 {p : Program} {l : Launch} {e : Env} {s : State} {m : MethodId} {args : Array Value} {below : List Frame} {meth : Method} {c : Code} {G : GX} {A : Nat → Prop} (C : Cx p s m args meth c cX5_putLadder 7 none wsX5_putLadder RX5 G A) (q0 : Nat) (q0_first : Nat) (q0_second : Nat) (q0_third : Nat) (q0_list : Nat) (q0_list_items : Nat) (q0_page : Nat) (q0_single : Nat) (q0_parts : Nat) (p1 : Int32) (p2 : Int32) (p3 : Int32) (res : (Nat → Int32) × Int32) (n : Nat) : ∀ (k0_list_items : Nat → Int32) (k0_list_size : Int32) (x4 : Int32) (H : Heap) (locs : List Loc) (ls : Array Slot), fX5_putLadder_L26 p1 p2 p3 n k0_list_items k0_list_size x4 = some res → va_P G.1 vwCl (wdX5_putLadder G q0 q0_first q0_second q0_third q0_list q0_list_items q0_page q0_single q0_parts k0_list_items k0_list_size) H → va_D A (wdX5_putLadder G q0 q0_first q0_second q0_third q0_list q0_list_items q0_page q0_single q0_parts k0_list_items k0_list_size) → va_S A s.heap H locs → lv_has ls 7 [(0, .ref q0), (1, .int p1), (2, .int p2), (3, .int p3), (4, .int x4)] → glX5_putLadder p l e s m args below meth c G A q0 q0_first q0_second q0_third q0_list q0_list_items q0_page q0_single q0_parts res H locs 26 ls [] := by
  obtain ⟨hx, hb, hml, hown, hts, hr, hlocks, hA, hG⟩ := id C
  induction n with
  | zero => intro k0_list_items k0_list_size x4 H locs ls hf hP hD hS hl; cases hf
  | succ n ih =>
    intro k0_list_items k0_list_size x4 H locs ls hf hP hD hS hl
    simp only [fX5_putLadder_L26] at hf
    refine lv_iload hx hb dX5_putLadder_26 (lv_at hl 4 rfl) ?_
    refine lv_iconst (v := (1 : Int32)) hx hb dX5_putLadder_28 (by decide) ?_
    refine lv_icmp_lt (tgt := 102) hx hb dX5_putLadder_29 (by decide) (fun hc => ?_) (fun hc => ?_)
    · have hf := if_t hc hf
      cases hf
      exact rt_v C hP hD hS dX5_putLadder_102
    · have hf := if_f hc hf
      refine lv_iload_n hx hb dX5_putLadder_32 rfl (lv_at hl 1 rfl) ?_
      refine lv_iload hx hb dX5_putLadder_33 (lv_at hl 4 rfl) ?_
      refine lv_iload_n hx hb dX5_putLadder_35 rfl (lv_at hl 3 rfl) ?_
      obtain ⟨r2, hr2, hf⟩ := bd_use hf
      refine cl_S (wn := (wdX5_putLadder G q0 q0_first q0_second q0_third q0_list q0_list_items q0_page q0_single q0_parts k0_list_items k0_list_size)) (st1 := [.int r2]) C hP hD hS (tX5_isCrossAt l G p1 x4 p3 r2 hr2) (va_cwS 3 hts gX5_putLadder_X5_isCrossAt rfl rfl rfl (by decide +kernel) ⟨Nat.le_of_ble_eq_true rfl, Nat.le_of_ble_eq_true rfl⟩) [] [0, 1, 2] [0, 1, 2] rfl rfl rfl rfl (by decide) rfl rfl rfl hl.1 rfl rfl (Nat.le_of_ble_eq_true rfl) dX5_putLadder_36 (fun H locs hP hD hS => ?_)
      refine lv_istore (lv' := [(5, .int r2), (0, .ref q0), (1, .int p1), (2, .int p2), (3, .int p3), (4, .int x4)]) hx hb dX5_putLadder_39 hl (by decide) rfl (fun ls hl => ?_)
      refine lv_iload_n hx hb dX5_putLadder_41 rfl (lv_at hl 2 rfl) ?_
      refine lv_iload hx hb dX5_putLadder_42 (lv_at hl 5 rfl) ?_
      refine lv_iload_n hx hb dX5_putLadder_44 rfl (lv_at hl 4 rfl) ?_
      refine lv_iconst (v := (1 : Int32)) hx hb dX5_putLadder_45 (by decide) ?_
      refine lv_iadd hx hb dX5_putLadder_46 ?_
      obtain ⟨r3, hr3, hf⟩ := bd_use hf
      refine cl_S (wn := (wdX5_putLadder G q0 q0_first q0_second q0_third q0_list q0_list_items q0_page q0_single q0_parts k0_list_items k0_list_size)) (st1 := [.int r3]) C hP hD hS (tX5_isCrossAt l G p1 x4 (p3 + (1 : Int32)) r3 hr3) (va_cwS 3 hts gX5_putLadder_X5_isCrossAt rfl rfl rfl (by decide +kernel) ⟨Nat.le_of_ble_eq_true rfl, Nat.le_of_ble_eq_true rfl⟩) [] [0, 1, 2] [0, 1, 2] rfl rfl rfl rfl (by decide) rfl rfl rfl hl.1 rfl rfl (Nat.le_of_ble_eq_true rfl) dX5_putLadder_47 (fun H locs hP hD hS => ?_)
      refine lv_istore (lv' := [(6, .int r3), (5, .int r2), (0, .ref q0), (1, .int p1), (2, .int p2), (3, .int p3), (4, .int x4)]) hx hb dX5_putLadder_50 hl (by decide) rfl (fun ls hl => ?_)
      refine lv_iload hx hb dX5_putLadder_52 (lv_at hl 1 rfl) ?_
      refine lv_if_ne (tgt := 85) hx hb dX5_putLadder_54 (by decide) (fun hc => ?_) (fun hc => ?_)
      · have hf := if_f hc hf
        exact wX5_putLadder_85 C q0 q0_first q0_second q0_third q0_list q0_list_items q0_page q0_single q0_parts p1 p2 p3 res (fX5_putLadder_L26 p1 p2 p3 n) ih k0_list_items k0_list_size x4 r2 r3 _ _ ls hf hP hD hS (lv_sub hl [2, 3, 4, 5, 6, 1, 0] rfl)
      · have hf := if_t hc hf
        refine lv_iload hx hb dX5_putLadder_57 (lv_at hl 0 rfl) ?_
        refine lv_if_ne (tgt := 85) hx hb dX5_putLadder_59 (by decide) (fun hc => ?_) (fun hc => ?_)
        · have hf := if_f hc hf
          exact wX5_putLadder_85 C q0 q0_first q0_second q0_third q0_list q0_list_items q0_page q0_single q0_parts p1 p2 p3 res (fX5_putLadder_L26 p1 p2 p3 n) ih k0_list_items k0_list_size x4 r2 r3 _ _ ls hf hP hD hS (lv_sub hl [2, 3, 4, 5, 6, 1, 0] rfl)
        · have hf := if_t hc hf
          refine lv_aload_n hx hb dX5_putLadder_62 rfl (lv_at hl 2 rfl) ?_
          refine va_get (D := G.1) (ci := 5) (v := .ref q0_list) (C := RX5) (T := TX5) (N := 7) hx hb hts nX5_putLadder_X5 hown hG.1 hP 0 rfl rfl 3 (by decide) (hts _ mX5_putLadder_0) (fun _ h9 => h9) rfl dX5_putLadder_63 ?_
          refine lv_iload_n hx hb dX5_putLadder_66 rfl (lv_at hl 3 rfl) ?_
          refine lv_iload_n hx hb dX5_putLadder_67 rfl (lv_at hl 4 rfl) ?_
          refine lv_iload_n hx hb dX5_putLadder_68 rfl (lv_at hl 5 rfl) ?_
          obtain ⟨r4, hr4, hf⟩ := bd_use hf
          refine cl_S (wn := (wdX5_putLadder G q0 q0_first q0_second q0_third q0_list q0_list_items q0_page q0_single q0_parts k0_list_items k0_list_size)) (st1 := [.int r4, .int p1, .ref q0_list]) C hP hD hS (tX5_bitOf l G p2 p3 r4 hr4) (va_cwS 2 hts gX5_putLadder_X5_bitOf rfl rfl rfl (by decide +kernel) ⟨Nat.le_of_ble_eq_true rfl, Nat.le_of_ble_eq_true rfl⟩) [] [0, 1, 2] [0, 1, 2] rfl rfl rfl rfl (by decide) rfl rfl rfl hl.1 rfl rfl (Nat.le_of_ble_eq_true rfl) dX5_putLadder_69 (fun H locs hP hD hS => ?_)
          refine lv_ixor hx hb dX5_putLadder_72 ?_
          refine lv_iload hx hb dX5_putLadder_73 (lv_at hl 6 rfl) ?_
          refine lv_iload_n hx hb dX5_putLadder_75 rfl (lv_at hl 5 rfl) ?_
          refine lv_iconst (v := (1 : Int32)) hx hb dX5_putLadder_76 (by decide) ?_
          refine lv_iadd hx hb dX5_putLadder_77 ?_
          obtain ⟨r5, hr5, hf⟩ := bd_use hf
          refine cl_S (wn := (wdX5_putLadder G q0 q0_first q0_second q0_third q0_list q0_list_items q0_page q0_single q0_parts k0_list_items k0_list_size)) (st1 := [.int r5, .int (p1 ^^^ r4), .ref q0_list]) C hP hD hS (tX5_bitOf l G x4 (p3 + (1 : Int32)) r5 hr5) (va_cwS 2 hts gX5_putLadder_X5_bitOf rfl rfl rfl (by decide +kernel) ⟨Nat.le_of_ble_eq_true rfl, Nat.le_of_ble_eq_true rfl⟩) [] [0, 1, 2] [0, 1, 2] rfl rfl rfl rfl (by decide) rfl rfl rfl hl.1 rfl rfl (Nat.le_of_ble_eq_true rfl) dX5_putLadder_78 (fun H locs hP hD hS => ?_)
          refine lv_ior hx hb dX5_putLadder_81 ?_
          obtain ⟨r6, hr6, hf⟩ := bd_use hf
          refine cl_V (wn := (wdX5_putLadder G q0 q0_first q0_second q0_third q0_list q0_list_items q0_page q0_single q0_parts r6.1 r6.2)) (st1 := []) C hP hD hS (tX0_put l G 32 q0_list q0_list_items k0_list_items k0_list_size ((p1 ^^^ r4) ||| r5) r6 hr6) (cwV 1 hts gX5_putLadder_X0_put rfl rfl rfl (by decide +kernel) ⟨Nat.le_of_ble_eq_true rfl, Nat.le_of_ble_eq_true rfl⟩) [1, 2] [0] [0, 1, 2] rfl rfl rfl rfl (by decide) rfl rfl (ci := 0) (q0 := 1) rfl rfl rfl rfl hl.1 rfl rfl (Nat.le_of_ble_eq_true rfl) dX5_putLadder_82 (fun H locs hP hD hS => ?_)
          exact wX5_putLadder_85 C q0 q0_first q0_second q0_third q0_list q0_list_items q0_page q0_single q0_parts p1 p2 p3 res (fX5_putLadder_L26 p1 p2 p3 n) ih r6.1 r6.2 x4 r2 r3 _ _ ls hf hP hD hS (lv_sub hl [2, 3, 4, 5, 6, 1, 0] rfl)
set_option maxHeartbeats 4000000 in
set_option maxRecDepth 100000 in
theorem tX5_putLadder (l : Launch) (G : GX) (q0 : Nat) (q0_first : Nat) (q0_second : Nat) (q0_third : Nat) (q0_list : Nat) (q0_list_items : Nat) (q0_page : Nat) (q0_single : Nat) (q0_parts : Nat) (k0_list_items : Nat → Int32) (k0_list_size : Int32) (p1 : Int32) (p2 : Int32) (p3 : Int32) (res : (Nat → Int32) × Int32) (hf : fX5_putLadder k0_list_items k0_list_size p1 p2 p3 = some res) : Ct l yX5_putLadder wsX5_putLadder rmX5_putLadder G [.ref q0, .int p1, .int p2, .int p3] (wdX5_putLadder G q0 q0_first q0_second q0_third q0_list q0_list_items q0_page q0_single q0_parts k0_list_items k0_list_size) (wdX5_putLadder G q0 q0_first q0_second q0_third q0_list q0_list_items q0_page q0_single q0_parts res.1 res.2) none := by
  refine Ct.of (cc := cX5_putLadder) (nL := 7) (ret := none) (by decide) rfl (Nat.le_of_ble_eq_true rfl) rfl ?_
  intro p e s m below meth c A ls C hP hD hl
  obtain ⟨hx, hb, hml, hown, hts, hr, hlocks, hA, hG⟩ := id C
  have hS : va_S A s.heap s.heap [] := va_S.rf
  unfold fX5_putLadder at hf
  refine lv_iload_n hx hb dX5_putLadder_0 rfl (lv_at hl 1 rfl) ?_
  refine lv_iload_n hx hb dX5_putLadder_1 rfl (lv_at hl 2 rfl) ?_
  refine lv_iload_n hx hb dX5_putLadder_2 rfl (lv_at hl 3 rfl) ?_
  obtain ⟨r7, hr7, hf⟩ := bd_use hf
  refine cl_S (wn := (wdX5_putLadder G q0 q0_first q0_second q0_third q0_list q0_list_items q0_page q0_single q0_parts k0_list_items k0_list_size)) (st1 := [.int r7]) C hP hD hS (tX5_isCrossAt l G p1 p2 p3 r7 hr7) (va_cwS 3 hts gX5_putLadder_X5_isCrossAt rfl rfl rfl (by decide +kernel) ⟨Nat.le_of_ble_eq_true rfl, Nat.le_of_ble_eq_true rfl⟩) [] [0, 1, 2] [0, 1, 2] rfl rfl rfl rfl (by decide) rfl rfl rfl hl.1 rfl rfl (Nat.le_of_ble_eq_true rfl) dX5_putLadder_3 (fun H locs hP hD hS => ?_)
  refine lv_if_eq (tgt := 20) hx hb dX5_putLadder_6 (by decide) (fun hc => ?_) (fun hc => ?_)
  · have hf := if_t hc hf
    cases hf
    exact rt_v C hP hD hS dX5_putLadder_20
  · have hf := if_f hc hf
    refine lv_iload_n hx hb dX5_putLadder_9 rfl (lv_at hl 1 rfl) ?_
    refine lv_iload_n hx hb dX5_putLadder_10 rfl (lv_at hl 2 rfl) ?_
    refine lv_iload_n hx hb dX5_putLadder_11 rfl (lv_at hl 3 rfl) ?_
    refine lv_iconst (v := (1 : Int32)) hx hb dX5_putLadder_12 (by decide) ?_
    refine lv_iadd hx hb dX5_putLadder_13 ?_
    obtain ⟨r8, hr8, hf⟩ := bd_use hf
    refine cl_S (wn := (wdX5_putLadder G q0 q0_first q0_second q0_third q0_list q0_list_items q0_page q0_single q0_parts k0_list_items k0_list_size)) (st1 := [.int r8]) C hP hD hS (tX5_isCrossAt l G p1 p2 (p3 + (1 : Int32)) r8 hr8) (va_cwS 3 hts gX5_putLadder_X5_isCrossAt rfl rfl rfl (by decide +kernel) ⟨Nat.le_of_ble_eq_true rfl, Nat.le_of_ble_eq_true rfl⟩) [] [0, 1, 2] [0, 1, 2] rfl rfl rfl rfl (by decide) rfl rfl rfl hl.1 rfl rfl (Nat.le_of_ble_eq_true rfl) dX5_putLadder_14 (fun H locs hP hD hS => ?_)
    refine lv_if_eq (tgt := 21) hx hb dX5_putLadder_17 (by decide) (fun hc => ?_) (fun hc => ?_)
    · have hf := if_t hc hf
      refine lv_iload_n hx hb dX5_putLadder_21 rfl (lv_at hl 2 rfl) ?_
      refine lv_iconst (v := (1 : Int32)) hx hb dX5_putLadder_22 (by decide) ?_
      refine lv_isub hx hb dX5_putLadder_23 ?_
      refine lv_topi (fun y9 ey9 => ?_)
      have hf := nm_use ey9 hf
      refine lv_istore (lv' := [(4, .int y9), (0, .ref q0), (1, .int p1), (2, .int p2), (3, .int p3)]) hx hb dX5_putLadder_24 hl (by decide) rfl (fun ls hl => ?_)
      exact wX5_putLadder_26 C q0 q0_first q0_second q0_third q0_list q0_list_items q0_page q0_single q0_parts p1 p2 p3 res fu k0_list_items k0_list_size y9 _ _ ls hf hP hD hS (lv_sub hl [1, 2, 3, 4, 0] rfl)
    · have hf := if_f hc hf
      cases hf
      exact rt_v C hP hD hS dX5_putLadder_20
abbrev wdX5_ladder (G : GX) (q0 : Nat) (q0_first : Nat) (q0_second : Nat) (q0_third : Nat) (q0_list : Nat) (q0_list_items : Nat) (q0_page : Nat) (q0_single : Nat) (q0_parts : Nat) (k0_list_items : Nat → Int32) (k0_list_size : Int32) : va_W := [(q0, .inr (5, [.ref q0_first, .ref q0_second, .ref q0_third, .ref q0_list, .ref q0_page, .ref q0_single, .ref q0_parts])), (q0_list, .inr (0, [.ref q0_list_items, .int k0_list_size])), (q0_list_items, .inl (G.2.1, 32, .inl k0_list_items))]
abbrev rmX5_ladder : Room := { frames := 3, cells := 0, slots := 0, locals := 109 }
abbrev glX5_ladder (p : Program) (l : Launch) (e : Env) (s : State) (m : MethodId) (args : Array Value) (below : List Frame) (meth : Method) (c : Code) (G : GX) (A : Nat → Prop) (q0 : Nat) (q0_first : Nat) (q0_second : Nat) (q0_third : Nat) (q0_list : Nat) (q0_list_items : Nat) (q0_page : Nat) (q0_single : Nat) (q0_parts : Nat) (res : Int32 × (Nat → Int32) × Int32) (H : Heap) (locs : List Loc) (pc : Nat) (ls : Array Slot) (st : List Value) : Prop := W p l e rmX5_ladder s m args below meth c H locs 0 0 (MQ below (ctQ G A (wdX5_ladder G q0 q0_first q0_second q0_third q0_list q0_list_items q0_page q0_single q0_parts res.2.1 res.2.2) (some (.int res.1))) args s 0 0 A) (F0 m pc ls st)
set_option maxRecDepth 20000 in
theorem mX5_ladder_0 : Cond.fieldLink RX5 29 "SchubertDesk" "list" "LSchubertDesk$Ascending;" ∈ wsX5_ladder := by decide +kernel
set_option maxRecDepth 20000 in
theorem nX5_ladder_X5 : ∀ w ∈ u_ws RX5 TX5 7, w ∈ wsX5_ladder := by decide +kernel
set_option maxHeartbeats 4000000 in
set_option maxRecDepth 100000 in
theorem wX5_ladder_32 {p : Program} {l : Launch} {e : Env} {s : State} {m : MethodId} {args : Array Value} {below : List Frame} {meth : Method} {c : Code} {G : GX} {A : Nat → Prop} (C : Cx p s m args meth c cX5_ladder 5 (some .int) wsX5_ladder RX5 G A) (q0 : Nat) (q0_first : Nat) (q0_second : Nat) (q0_third : Nat) (q0_list : Nat) (q0_list_items : Nat) (q0_page : Nat) (q0_single : Nat) (q0_parts : Nat) (p1 : Int32) (p2 : Int32) (res : Int32 × (Nat → Int32) × Int32) (rec24 : (Nat → Int32) → Int32 → Int32 → Option (Int32 × (Nat → Int32) × Int32)) (hr24 : ∀ (k0_list_items : Nat → Int32) (k0_list_size : Int32) (x3 : Int32) (H : Heap) (locs : List Loc) (ls : Array Slot), rec24 k0_list_items k0_list_size x3 = some res → va_P G.1 vwCl (wdX5_ladder G q0 q0_first q0_second q0_third q0_list q0_list_items q0_page q0_single q0_parts k0_list_items k0_list_size) H → va_D A (wdX5_ladder G q0 q0_first q0_second q0_third q0_list q0_list_items q0_page q0_single q0_parts k0_list_items k0_list_size) → va_S A s.heap H locs → lv_has ls 5 [(0, .ref q0), (1, .int p1), (2, .int p2), (3, .int x3)] → glX5_ladder p l e s m args below meth c G A q0 q0_first q0_second q0_third q0_list q0_list_items q0_page q0_single q0_parts res H locs 24 ls []) (n : Nat) : ∀ (k0_list_items : Nat → Int32) (k0_list_size : Int32) (x3 : Int32) (x4 : Int32) (H : Heap) (locs : List Loc) (ls : Array Slot), fX5_ladder_L32 p1 p2 rec24 n k0_list_items k0_list_size x3 x4 = some res → va_P G.1 vwCl (wdX5_ladder G q0 q0_first q0_second q0_third q0_list q0_list_items q0_page q0_single q0_parts k0_list_items k0_list_size) H → va_D A (wdX5_ladder G q0 q0_first q0_second q0_third q0_list q0_list_items q0_page q0_single q0_parts k0_list_items k0_list_size) → va_S A s.heap H locs → lv_has ls 5 [(0, .ref q0), (1, .int p1), (2, .int p2), (3, .int x3), (4, .int x4)] → glX5_ladder p l e s m args below meth c G A q0 q0_first q0_second q0_third q0_list q0_list_items q0_page q0_single q0_parts res H locs 32 ls [] := by
  obtain ⟨hx, hb, hml, hown, hts, hr, hlocks, hA, hG⟩ := id C
  induction n with
  | zero => intro k0_list_items k0_list_size x3 x4 H locs ls hf hP hD hS hl; cases hf
  | succ n ih =>
    intro k0_list_items k0_list_size x3 x4 H locs ls hf hP hD hS hl
    simp only [fX5_ladder_L32] at hf
    refine lv_iload hx hb dX5_ladder_32 (lv_at hl 4 rfl) ?_
    refine lv_iconst (v := (5 : Int32)) hx hb dX5_ladder_34 (by decide) ?_
    refine lv_iload_n hx hb dX5_ladder_35 rfl (lv_at hl 3 rfl) ?_
    refine lv_isub hx hb dX5_ladder_36 ?_
    refine lv_icmp_gt (tgt := 54) hx hb dX5_ladder_37 (by decide) (fun hc => ?_) (fun hc => ?_)
    · have hf := if_t hc hf
      obtain ⟨y1, ey1⟩ : ∃ z : Int32, z = x3 + (1 : Int32) := ⟨_, rfl⟩
      have hf := nm_use ey1 hf
      refine lv_iinc (v := y1) (lv' := [(3, .int y1), (0, .ref q0), (1, .int p1), (2, .int p2), (4, .int x4)]) hx hb dX5_ladder_54 hl (k := 3) rfl (by rw [ey1]; rfl) (by decide) rfl (fun ls hl => ?_)
      refine lv_goto (tgt := 24) hx hb dX5_ladder_57 (by decide) ?_
      exact hr24 k0_list_items k0_list_size y1 _ _ ls hf hP hD hS (lv_sub hl [1, 2, 3, 0] rfl)
    · have hf := if_f hc hf
      refine lv_aload_n hx hb dX5_ladder_40 rfl (lv_at hl 0 rfl) ?_
      refine lv_iload_n hx hb dX5_ladder_41 rfl (lv_at hl 1 rfl) ?_
      refine lv_iload_n hx hb dX5_ladder_42 rfl (lv_at hl 3 rfl) ?_
      refine lv_iload hx hb dX5_ladder_43 (lv_at hl 4 rfl) ?_
      obtain ⟨r2, hr2, hf⟩ := bd_use hf
      refine cl_V (wn := (wdX5_ladder G q0 q0_first q0_second q0_third q0_list q0_list_items q0_page q0_single q0_parts r2.1 r2.2)) (st1 := []) C hP hD hS (tX5_putLadder l G q0 q0_first q0_second q0_third q0_list q0_list_items q0_page q0_single q0_parts k0_list_items k0_list_size p1 x3 x4 r2 hr2) (cwV 3 hts gX5_ladder_X5_putLadder rfl rfl rfl (by decide +kernel) ⟨Nat.le_of_ble_eq_true rfl, Nat.le_of_ble_eq_true rfl⟩) [0, 1, 2] [] [0, 1, 2] rfl rfl rfl rfl (by decide) rfl rfl (ci := 5) (q0 := 0) rfl rfl rfl rfl hl.1 rfl rfl (Nat.le_of_ble_eq_true rfl) dX5_ladder_45 (fun H locs hP hD hS => ?_)
      obtain ⟨y3, ey3⟩ : ∃ z : Int32, z = x4 + (1 : Int32) := ⟨_, rfl⟩
      have hf := nm_use ey3 hf
      refine lv_iinc (v := y3) (lv' := [(4, .int y3), (0, .ref q0), (1, .int p1), (2, .int p2), (3, .int x3)]) hx hb dX5_ladder_48 hl (k := 4) rfl (by rw [ey3]; rfl) (by decide) rfl (fun ls hl => ?_)
      refine lv_goto (tgt := 32) hx hb dX5_ladder_51 (by decide) ?_
      exact ih r2.1 r2.2 x3 y3 _ _ ls hf hP hD hS (lv_sub hl [1, 2, 3, 4, 0] rfl)
set_option maxHeartbeats 4000000 in
set_option maxRecDepth 100000 in
theorem wX5_ladder_24 {p : Program} {l : Launch} {e : Env} {s : State} {m : MethodId} {args : Array Value} {below : List Frame} {meth : Method} {c : Code} {G : GX} {A : Nat → Prop} (C : Cx p s m args meth c cX5_ladder 5 (some .int) wsX5_ladder RX5 G A) (q0 : Nat) (q0_first : Nat) (q0_second : Nat) (q0_third : Nat) (q0_list : Nat) (q0_list_items : Nat) (q0_page : Nat) (q0_single : Nat) (q0_parts : Nat) (p1 : Int32) (p2 : Int32) (res : Int32 × (Nat → Int32) × Int32) (n : Nat) : ∀ (k0_list_items : Nat → Int32) (k0_list_size : Int32) (x3 : Int32) (H : Heap) (locs : List Loc) (ls : Array Slot), fX5_ladder_L24 p1 p2 n k0_list_items k0_list_size x3 = some res → va_P G.1 vwCl (wdX5_ladder G q0 q0_first q0_second q0_third q0_list q0_list_items q0_page q0_single q0_parts k0_list_items k0_list_size) H → va_D A (wdX5_ladder G q0 q0_first q0_second q0_third q0_list q0_list_items q0_page q0_single q0_parts k0_list_items k0_list_size) → va_S A s.heap H locs → lv_has ls 5 [(0, .ref q0), (1, .int p1), (2, .int p2), (3, .int x3)] → glX5_ladder p l e s m args below meth c G A q0 q0_first q0_second q0_third q0_list q0_list_items q0_page q0_single q0_parts res H locs 24 ls [] := by
  obtain ⟨hx, hb, hml, hown, hts, hr, hlocks, hA, hG⟩ := id C
  induction n with
  | zero => intro k0_list_items k0_list_size x3 H locs ls hf hP hD hS hl; cases hf
  | succ n ih =>
    intro k0_list_items k0_list_size x3 H locs ls hf hP hD hS hl
    simp only [fX5_ladder_L24] at hf
    refine lv_iload_n hx hb dX5_ladder_24 rfl (lv_at hl 3 rfl) ?_
    refine lv_iconst (v := (4 : Int32)) hx hb dX5_ladder_25 (by decide) ?_
    refine lv_icmp_gt (tgt := 60) hx hb dX5_ladder_26 (by decide) (fun hc => ?_) (fun hc => ?_)
    · have hf := if_t hc hf
      refine lv_aload_n hx hb dX5_ladder_60 rfl (lv_at hl 0 rfl) ?_
      refine va_get (D := G.1) (ci := 5) (v := .ref q0_list) (C := RX5) (T := TX5) (N := 7) hx hb hts nX5_ladder_X5 hown hG.1 hP 0 rfl rfl 3 (by decide) (hts _ mX5_ladder_0) (fun _ h9 => h9) rfl dX5_ladder_61 ?_
      refine lv_iload_n hx hb dX5_ladder_64 rfl (lv_at hl 2 rfl) ?_
      obtain ⟨r4, hr4, hf⟩ := bd_use hf
      refine cl_V (wn := (wdX5_ladder G q0 q0_first q0_second q0_third q0_list q0_list_items q0_page q0_single q0_parts k0_list_items k0_list_size)) (st1 := [.int r4]) C hP hD hS (tX0_answer l G 32 q0_list q0_list_items k0_list_items k0_list_size p2 r4 hr4) (cwV 1 hts gX5_ladder_X0_answer rfl rfl rfl (by decide +kernel) ⟨Nat.le_of_ble_eq_true rfl, Nat.le_of_ble_eq_true rfl⟩) [1, 2] [0] [0, 1, 2] rfl rfl rfl rfl (by decide) rfl rfl (ci := 0) (q0 := 1) rfl rfl rfl rfl hl.1 rfl rfl (Nat.le_of_ble_eq_true rfl) dX5_ladder_65 (fun H locs hP hD hS => ?_)
      cases hf
      exact rt_i C hP hD hS dX5_ladder_68
    · have hf := if_f hc hf
      refine lv_iconst (v := (1 : Int32)) hx hb dX5_ladder_29 (by decide) ?_
      refine lv_istore (lv' := [(4, .int (1 : Int32)), (0, .ref q0), (1, .int p1), (2, .int p2), (3, .int x3)]) hx hb dX5_ladder_30 hl (by decide) rfl (fun ls hl => ?_)
      exact wX5_ladder_32 C q0 q0_first q0_second q0_third q0_list q0_list_items q0_page q0_single q0_parts p1 p2 res (fX5_ladder_L24 p1 p2 n) ih fu k0_list_items k0_list_size x3 (1 : Int32) _ _ ls hf hP hD hS (lv_sub hl [1, 2, 3, 4, 0] rfl)
set_option maxHeartbeats 4000000 in
set_option maxRecDepth 100000 in
theorem tX5_ladder (l : Launch) (G : GX) (q0 : Nat) (q0_first : Nat) (q0_second : Nat) (q0_third : Nat) (q0_list : Nat) (q0_list_items : Nat) (q0_page : Nat) (q0_single : Nat) (q0_parts : Nat) (k0_list_items : Nat → Int32) (k0_list_size : Int32) (p1 : Int32) (p2 : Int32) (res : Int32 × (Nat → Int32) × Int32) (hf : fX5_ladder k0_list_items k0_list_size p1 p2 = some res) : Ct l yX5_ladder wsX5_ladder rmX5_ladder G [.ref q0, .int p1, .int p2] (wdX5_ladder G q0 q0_first q0_second q0_third q0_list q0_list_items q0_page q0_single q0_parts k0_list_items k0_list_size) (wdX5_ladder G q0 q0_first q0_second q0_third q0_list q0_list_items q0_page q0_single q0_parts res.2.1 res.2.2) (some (.int res.1)) := by
  refine Ct.of (cc := cX5_ladder) (nL := 5) (ret := (some .int)) (by decide) rfl (Nat.le_of_ble_eq_true rfl) rfl ?_
  intro p e s m below meth c A ls C hP hD hl
  obtain ⟨hx, hb, hml, hown, hts, hr, hlocks, hA, hG⟩ := id C
  have hS : va_S A s.heap s.heap [] := va_S.rf
  unfold fX5_ladder at hf
  refine lv_iload_n hx hb dX5_ladder_0 rfl (lv_at hl 1 rfl) ?_
  obtain ⟨r5, hr5, hf⟩ := bd_use hf
  refine cl_S (wn := (wdX5_ladder G q0 q0_first q0_second q0_third q0_list q0_list_items q0_page q0_single q0_parts k0_list_items k0_list_size)) (st1 := [.int r5]) C hP hD hS (tX5_isCrossSet l G p1 r5 hr5) (va_cwS 1 hts gX5_ladder_X5_isCrossSet rfl rfl rfl (by decide +kernel) ⟨Nat.le_of_ble_eq_true rfl, Nat.le_of_ble_eq_true rfl⟩) [] [0, 1, 2] [0, 1, 2] rfl rfl rfl rfl (by decide) rfl rfl rfl hl.1 rfl rfl (Nat.le_of_ble_eq_true rfl) dX5_ladder_1 (fun H locs hP hD hS => ?_)
  refine lv_if_eq (tgt := 12) hx hb dX5_ladder_4 (by decide) (fun hc => ?_) (fun hc => ?_)
  · have hf := if_t hc hf
    refine lv_bipush (v := (-2 : Int32)) hx hb dX5_ladder_12 (by decide) ?_
    cases hf
    exact rt_i C hP hD hS dX5_ladder_14
  · have hf := if_f hc hf
    refine lv_iload_n hx hb dX5_ladder_7 rfl (lv_at hl 2 rfl) ?_
    refine lv_iconst (v := (-1 : Int32)) hx hb dX5_ladder_8 (by decide) ?_
    refine lv_icmp_ge (tgt := 15) hx hb dX5_ladder_9 (by decide) (fun hc => ?_) (fun hc => ?_)
    · have hf := if_t hc hf
      refine lv_aload_n hx hb dX5_ladder_15 rfl (lv_at hl 0 rfl) ?_
      refine va_get (D := G.1) (ci := 5) (v := .ref q0_list) (C := RX5) (T := TX5) (N := 7) hx hb hts nX5_ladder_X5 hown hG.1 hP 0 rfl rfl 3 (by decide) (hts _ mX5_ladder_0) (fun _ h9 => h9) rfl dX5_ladder_16 ?_
      obtain ⟨r6, hr6, hf⟩ := bd_use hf
      refine cl_V (wn := (wdX5_ladder G q0 q0_first q0_second q0_third q0_list q0_list_items q0_page q0_single q0_parts k0_list_items r6)) (st1 := []) C hP hD hS (tX0_clear l G q0_list q0_list_items k0_list_size r6 hr6) (cwV 0 hts gX5_ladder_X0_clear rfl rfl rfl (by decide +kernel) ⟨Nat.le_of_ble_eq_true rfl, Nat.le_of_ble_eq_true rfl⟩) [1] [0, 2] [0, 2, 1] rfl rfl rfl rfl (by decide) rfl rfl (ci := 0) (q0 := 1) rfl rfl rfl rfl hl.1 rfl rfl (Nat.le_of_ble_eq_true rfl) dX5_ladder_19 (fun H locs hP hD hS => ?_)
      refine lv_iconst (v := (2 : Int32)) hx hb dX5_ladder_22 (by decide) ?_
      refine lv_istore_n (lv' := [(3, .int (2 : Int32)), (0, .ref q0), (1, .int p1), (2, .int p2)]) hx hb dX5_ladder_23 rfl hl (by decide) rfl (fun ls hl => ?_)
      exact wX5_ladder_24 C q0 q0_first q0_second q0_third q0_list q0_list_items q0_page q0_single q0_parts p1 p2 res fu k0_list_items r6 (2 : Int32) _ _ ls hf hP hD hS (lv_sub hl [1, 2, 3, 0] rfl)
    · have hf := if_f hc hf
      refine lv_bipush (v := (-2 : Int32)) hx hb dX5_ladder_12 (by decide) ?_
      cases hf
      exact rt_i C hP hD hS dX5_ladder_14
abbrev wdX5_putExchanged (G : GX) (q0 : Nat) (q0_first : Nat) (q0_second : Nat) (q0_third : Nat) (q0_list : Nat) (q0_list_items : Nat) (q0_page : Nat) (q0_single : Nat) (q0_parts : Nat) (q1 : Nat) (q1_row : Nat) (k0_list_items : Nat → Int32) (k0_list_size : Int32) (k1_row : Nat → Int32) : va_W := [(q0, .inr (5, [.ref q0_first, .ref q0_second, .ref q0_third, .ref q0_list, .ref q0_page, .ref q0_single, .ref q0_parts])), (q0_list, .inr (0, [.ref q0_list_items, .int k0_list_size])), (q0_list_items, .inl (G.2.1, 32, .inl k0_list_items)), (q1, .inr (1, [.ref q1_row])), (q1_row, .inl (G.2.1, 10, .inl k1_row))]
abbrev rmX5_putExchanged : Room := { frames := 3, cells := 0, slots := 0, locals := 83 }
abbrev glX5_putExchanged (p : Program) (l : Launch) (e : Env) (s : State) (m : MethodId) (args : Array Value) (below : List Frame) (meth : Method) (c : Code) (G : GX) (A : Nat → Prop) (q0 : Nat) (q0_first : Nat) (q0_second : Nat) (q0_third : Nat) (q0_list : Nat) (q0_list_items : Nat) (q0_page : Nat) (q0_single : Nat) (q0_parts : Nat) (q1 : Nat) (q1_row : Nat) (res : (Nat → Int32) × Int32 × (Nat → Int32)) (H : Heap) (locs : List Loc) (pc : Nat) (ls : Array Slot) (st : List Value) : Prop := W p l e rmX5_putExchanged s m args below meth c H locs 0 0 (MQ below (ctQ G A (wdX5_putExchanged G q0 q0_first q0_second q0_third q0_list q0_list_items q0_page q0_single q0_parts q1 q1_row res.1 res.2.1 res.2.2) none) args s 0 0 A) (F0 m pc ls st)
set_option maxRecDepth 20000 in
theorem mX5_putExchanged_0 : Cond.fieldLink RX5 29 "SchubertDesk" "list" "LSchubertDesk$Ascending;" ∈ wsX5_putExchanged := by decide +kernel
set_option maxRecDepth 20000 in
theorem nX5_putExchanged_X5 : ∀ w ∈ u_ws RX5 TX5 7, w ∈ wsX5_putExchanged := by decide +kernel
set_option maxHeartbeats 4000000 in
set_option maxRecDepth 100000 in
theorem wX5_putExchanged_26 {p : Program} {l : Launch} {e : Env} {s : State} {m : MethodId} {args : Array Value} {below : List Frame} {meth : Method} {c : Code} {G : GX} {A : Nat → Prop} (C : Cx p s m args meth c cX5_putExchanged 5 none wsX5_putExchanged RX5 G A) (q0 : Nat) (q0_first : Nat) (q0_second : Nat) (q0_third : Nat) (q0_list : Nat) (q0_list_items : Nat) (q0_page : Nat) (q0_single : Nat) (q0_parts : Nat) (q1 : Nat) (q1_row : Nat) (p2 : Int32) (p3 : Int32) (p4 : Int32) (res : (Nat → Int32) × Int32 × (Nat → Int32)) : ∀ (k0_list_items : Nat → Int32) (k0_list_size : Int32) (k1_row : Nat → Int32) (H : Heap) (locs : List Loc) (ls : Array Slot), fX5_putExchanged_b26 p2 p3 p4 k0_list_items k0_list_size k1_row = some res → va_P G.1 vwCl (wdX5_putExchanged G q0 q0_first q0_second q0_third q0_list q0_list_items q0_page q0_single q0_parts q1 q1_row k0_list_items k0_list_size k1_row) H → va_D A (wdX5_putExchanged G q0 q0_first q0_second q0_third q0_list q0_list_items q0_page q0_single q0_parts q1 q1_row k0_list_items k0_list_size k1_row) → va_S A s.heap H locs → lv_has ls 5 [(1, .ref q1), (2, .int p2), (3, .int p3)] → glX5_putExchanged p l e s m args below meth c G A q0 q0_first q0_second q0_third q0_list q0_list_items q0_page q0_single q0_parts q1 q1_row res H locs 26 ls [] := by
  obtain ⟨hx, hb, hml, hown, hts, hr, hlocks, hA, hG⟩ := id C
  intro k0_list_items k0_list_size k1_row H locs ls hf hP hD hS hl
  unfold fX5_putExchanged_b26 at hf
  refine lv_aload_n hx hb dX5_putExchanged_26 rfl (lv_at hl 0 rfl) ?_
  refine lv_iload_n hx hb dX5_putExchanged_27 rfl (lv_at hl 1 rfl) ?_
  refine lv_iload_n hx hb dX5_putExchanged_28 rfl (lv_at hl 2 rfl) ?_
  obtain ⟨r1, hr1, hf⟩ := bd_use hf
  refine cl_V (wn := (wdX5_putExchanged G q0 q0_first q0_second q0_third q0_list q0_list_items q0_page q0_single q0_parts q1 q1_row k0_list_items k0_list_size r1)) (st1 := []) C hP hD hS (tX1_exchange l G q1 q1_row k1_row p2 p3 r1 hr1) (cwV 2 hts gX5_putExchanged_X1_exchange rfl rfl rfl (by decide +kernel) ⟨Nat.le_of_ble_eq_true rfl, Nat.le_of_ble_eq_true rfl⟩) [3, 4] [0, 1, 2] [0, 1, 2, 3, 4] rfl rfl rfl rfl (by decide) rfl rfl (ci := 1) (q0 := 3) rfl rfl rfl rfl hl.1 rfl rfl (Nat.le_of_ble_eq_true rfl) dX5_putExchanged_29 (fun H locs hP hD hS => ?_)
  cases hf
  exact rt_v C hP hD hS dX5_putExchanged_32
set_option maxHeartbeats 4000000 in
set_option maxRecDepth 100000 in
theorem tX5_putExchanged (l : Launch) (G : GX) (q0 : Nat) (q0_first : Nat) (q0_second : Nat) (q0_third : Nat) (q0_list : Nat) (q0_list_items : Nat) (q0_page : Nat) (q0_single : Nat) (q0_parts : Nat) (q1 : Nat) (q1_row : Nat) (k0_list_items : Nat → Int32) (k0_list_size : Int32) (k1_row : Nat → Int32) (p2 : Int32) (p3 : Int32) (p4 : Int32) (res : (Nat → Int32) × Int32 × (Nat → Int32)) (hf : fX5_putExchanged k0_list_items k0_list_size k1_row p2 p3 p4 = some res) : Ct l yX5_putExchanged wsX5_putExchanged rmX5_putExchanged G [.ref q0, .ref q1, .int p2, .int p3, .int p4] (wdX5_putExchanged G q0 q0_first q0_second q0_third q0_list q0_list_items q0_page q0_single q0_parts q1 q1_row k0_list_items k0_list_size k1_row) (wdX5_putExchanged G q0 q0_first q0_second q0_third q0_list q0_list_items q0_page q0_single q0_parts q1 q1_row res.1 res.2.1 res.2.2) none := by
  refine Ct.of (cc := cX5_putExchanged) (nL := 5) (ret := none) (by decide) rfl (Nat.le_of_ble_eq_true rfl) rfl ?_
  intro p e s m below meth c A ls C hP hD hl
  obtain ⟨hx, hb, hml, hown, hts, hr, hlocks, hA, hG⟩ := id C
  have hS : va_S A s.heap s.heap [] := va_S.rf
  unfold fX5_putExchanged at hf
  refine lv_aload_n hx hb dX5_putExchanged_0 rfl (lv_at hl 1 rfl) ?_
  refine lv_iload_n hx hb dX5_putExchanged_1 rfl (lv_at hl 2 rfl) ?_
  refine lv_iload_n hx hb dX5_putExchanged_2 rfl (lv_at hl 3 rfl) ?_
  obtain ⟨r2, hr2, hf⟩ := bd_use hf
  refine cl_V (wn := (wdX5_putExchanged G q0 q0_first q0_second q0_third q0_list q0_list_items q0_page q0_single q0_parts q1 q1_row k0_list_items k0_list_size r2)) (st1 := []) C hP hD hS (tX1_exchange l G q1 q1_row k1_row p2 p3 r2 hr2) (cwV 2 hts gX5_putExchanged_X1_exchange rfl rfl rfl (by decide +kernel) ⟨Nat.le_of_ble_eq_true rfl, Nat.le_of_ble_eq_true rfl⟩) [3, 4] [0, 1, 2] [0, 1, 2, 3, 4] rfl rfl rfl rfl (by decide) rfl rfl (ci := 1) (q0 := 3) rfl rfl rfl rfl hl.1 rfl rfl (Nat.le_of_ble_eq_true rfl) dX5_putExchanged_3 (fun H locs hP hD hS => ?_)
  refine lv_aload_n hx hb dX5_putExchanged_6 rfl (lv_at hl 1 rfl) ?_
  obtain ⟨r3, hr3, hf⟩ := bd_use hf
  refine cl_V (wn := (wdX5_putExchanged G q0 q0_first q0_second q0_third q0_list q0_list_items q0_page q0_single q0_parts q1 q1_row k0_list_items k0_list_size r2)) (st1 := [.int r3]) C hP hD hS (tX1_inversions l G q1 q1_row r2 r3 hr3) (cwV 0 hts gX5_putExchanged_X1_inversions rfl rfl rfl (by decide +kernel) ⟨Nat.le_of_ble_eq_true rfl, Nat.le_of_ble_eq_true rfl⟩) [3, 4] [0, 1, 2] [0, 1, 2, 3, 4] rfl rfl rfl rfl (by decide) rfl rfl (ci := 1) (q0 := 3) rfl rfl rfl rfl hl.1 rfl rfl (Nat.le_of_ble_eq_true rfl) dX5_putExchanged_7 (fun H locs hP hD hS => ?_)
  refine lv_iload hx hb dX5_putExchanged_10 (lv_at hl 4 rfl) ?_
  refine lv_icmp_ne (tgt := 26) hx hb dX5_putExchanged_12 (by decide) (fun hc => ?_) (fun hc => ?_)
  · have hf := if_f hc hf
    exact wX5_putExchanged_26 C q0 q0_first q0_second q0_third q0_list q0_list_items q0_page q0_single q0_parts q1 q1_row p2 p3 p4 res k0_list_items k0_list_size r2 _ _ ls hf hP hD hS (lv_sub hl [1, 2, 3] rfl)
  · have hf := if_t hc hf
    refine lv_aload_n hx hb dX5_putExchanged_15 rfl (lv_at hl 0 rfl) ?_
    refine va_get (D := G.1) (ci := 5) (v := .ref q0_list) (C := RX5) (T := TX5) (N := 7) hx hb hts nX5_putExchanged_X5 hown hG.1 hP 0 rfl rfl 3 (by decide) (hts _ mX5_putExchanged_0) (fun _ h9 => h9) rfl dX5_putExchanged_16 ?_
    refine lv_aload_n hx hb dX5_putExchanged_19 rfl (lv_at hl 1 rfl) ?_
    obtain ⟨r4, hr4, hf⟩ := bd_use hf
    refine cl_V (wn := (wdX5_putExchanged G q0 q0_first q0_second q0_third q0_list q0_list_items q0_page q0_single q0_parts q1 q1_row k0_list_items k0_list_size r2)) (st1 := [.int r4, .ref q0_list]) C hP hD hS (tX1_plainNumber l G q1 q1_row r2 r4 hr4) (cwV 0 hts gX5_putExchanged_X1_plainNumber rfl rfl rfl (by decide +kernel) ⟨Nat.le_of_ble_eq_true rfl, Nat.le_of_ble_eq_true rfl⟩) [3, 4] [0, 1, 2] [0, 1, 2, 3, 4] rfl rfl rfl rfl (by decide) rfl rfl (ci := 1) (q0 := 3) rfl rfl rfl rfl hl.1 rfl rfl (Nat.le_of_ble_eq_true rfl) dX5_putExchanged_20 (fun H locs hP hD hS => ?_)
    obtain ⟨r5, hr5, hf⟩ := bd_use hf
    refine cl_V (wn := (wdX5_putExchanged G q0 q0_first q0_second q0_third q0_list q0_list_items q0_page q0_single q0_parts q1 q1_row r5.1 r5.2 r2)) (st1 := []) C hP hD hS (tX0_put l G 32 q0_list q0_list_items k0_list_items k0_list_size r4 r5 hr5) (cwV 1 hts gX5_putExchanged_X0_put rfl rfl rfl (by decide +kernel) ⟨Nat.le_of_ble_eq_true rfl, Nat.le_of_ble_eq_true rfl⟩) [1, 2] [0, 3, 4] [0, 3, 4, 1, 2] rfl rfl rfl rfl (by decide) rfl rfl (ci := 0) (q0 := 1) rfl rfl rfl rfl hl.1 rfl rfl (Nat.le_of_ble_eq_true rfl) dX5_putExchanged_23 (fun H locs hP hD hS => ?_)
    exact wX5_putExchanged_26 C q0 q0_first q0_second q0_third q0_list q0_list_items q0_page q0_single q0_parts q1 q1_row p2 p3 p4 res r5.1 r5.2 r2 _ _ ls hf hP hD hS (lv_sub hl [1, 2, 3] rfl)
abbrev wdX5_rise (G : GX) (q0 : Nat) (q0_first : Nat) (q0_first_row : Nat) (q0_second : Nat) (q0_third : Nat) (q0_list : Nat) (q0_list_items : Nat) (q0_page : Nat) (q0_single : Nat) (q0_parts : Nat) (k0_first_row : Nat → Int32) (k0_list_items : Nat → Int32) (k0_list_size : Int32) : va_W := [(q0, .inr (5, [.ref q0_first, .ref q0_second, .ref q0_third, .ref q0_list, .ref q0_page, .ref q0_single, .ref q0_parts])), (q0_first, .inr (1, [.ref q0_first_row])), (q0_first_row, .inl (G.2.1, 10, .inl k0_first_row)), (q0_list, .inr (0, [.ref q0_list_items, .int k0_list_size])), (q0_list_items, .inl (G.2.1, 32, .inl k0_list_items))]
abbrev rmX5_rise : Room := { frames := 4, cells := 0, slots := 0, locals := 107 }
abbrev glX5_rise (p : Program) (l : Launch) (e : Env) (s : State) (m : MethodId) (args : Array Value) (below : List Frame) (meth : Method) (c : Code) (G : GX) (A : Nat → Prop) (q0 : Nat) (q0_first : Nat) (q0_first_row : Nat) (q0_second : Nat) (q0_third : Nat) (q0_list : Nat) (q0_list_items : Nat) (q0_page : Nat) (q0_single : Nat) (q0_parts : Nat) (res : Int32 × (Nat → Int32) × (Nat → Int32) × Int32) (H : Heap) (locs : List Loc) (pc : Nat) (ls : Array Slot) (st : List Value) : Prop := W p l e rmX5_rise s m args below meth c H locs 0 0 (MQ below (ctQ G A (wdX5_rise G q0 q0_first q0_first_row q0_second q0_third q0_list q0_list_items q0_page q0_single q0_parts res.2.1 res.2.2.1 res.2.2.2) (some (.int res.1))) args s 0 0 A) (F0 m pc ls st)
set_option maxRecDepth 20000 in
theorem mX5_rise_0 : Cond.fieldLink RX5 12 "SchubertDesk" "first" "LSchubertDesk$Digits;" ∈ wsX5_rise := by decide +kernel
set_option maxRecDepth 20000 in
theorem mX5_rise_1 : Cond.fieldLink RX5 29 "SchubertDesk" "list" "LSchubertDesk$Ascending;" ∈ wsX5_rise := by decide +kernel
set_option maxRecDepth 20000 in
theorem mX5_rise_2 : Cond.constant RX5 199 (99999999) ∈ wsX5_rise := by decide +kernel
set_option maxRecDepth 20000 in
theorem nX5_rise_X5 : ∀ w ∈ u_ws RX5 TX5 7, w ∈ wsX5_rise := by decide +kernel
set_option maxHeartbeats 4000000 in
set_option maxRecDepth 100000 in
theorem wX5_rise_68 {p : Program} {l : Launch} {e : Env} {s : State} {m : MethodId} {args : Array Value} {below : List Frame} {meth : Method} {c : Code} {G : GX} {A : Nat → Prop} (C : Cx p s m args meth c cX5_rise 7 (some .int) wsX5_rise RX5 G A) (q0 : Nat) (q0_first : Nat) (q0_first_row : Nat) (q0_second : Nat) (q0_third : Nat) (q0_list : Nat) (q0_list_items : Nat) (q0_page : Nat) (q0_single : Nat) (q0_parts : Nat) (p1 : Int32) (p2 : Int32) (p3 : Int32) (res : Int32 × (Nat → Int32) × (Nat → Int32) × Int32) (rec57 : (Nat → Int32) → (Nat → Int32) → Int32 → Int32 → Int32 → Option (Int32 × (Nat → Int32) × (Nat → Int32) × Int32)) (hr57 : ∀ (k0_first_row : Nat → Int32) (k0_list_items : Nat → Int32) (k0_list_size : Int32) (x4 : Int32) (x5 : Int32) (H : Heap) (locs : List Loc) (ls : Array Slot), rec57 k0_first_row k0_list_items k0_list_size x4 x5 = some res → va_P G.1 vwCl (wdX5_rise G q0 q0_first q0_first_row q0_second q0_third q0_list q0_list_items q0_page q0_single q0_parts k0_first_row k0_list_items k0_list_size) H → va_D A (wdX5_rise G q0 q0_first q0_first_row q0_second q0_third q0_list q0_list_items q0_page q0_single q0_parts k0_first_row k0_list_items k0_list_size) → va_S A s.heap H locs → lv_has ls 7 [(0, .ref q0), (2, .int p2), (3, .int p3), (4, .int x4), (5, .int x5)] → glX5_rise p l e s m args below meth c G A q0 q0_first q0_first_row q0_second q0_third q0_list q0_list_items q0_page q0_single q0_parts res H locs 57 ls []) (n : Nat) : ∀ (k0_first_row : Nat → Int32) (k0_list_items : Nat → Int32) (k0_list_size : Int32) (x4 : Int32) (x5 : Int32) (x6 : Int32) (H : Heap) (locs : List Loc) (ls : Array Slot), fX5_rise_L68 p1 p2 p3 rec57 n k0_first_row k0_list_items k0_list_size x4 x5 x6 = some res → va_P G.1 vwCl (wdX5_rise G q0 q0_first q0_first_row q0_second q0_third q0_list q0_list_items q0_page q0_single q0_parts k0_first_row k0_list_items k0_list_size) H → va_D A (wdX5_rise G q0 q0_first q0_first_row q0_second q0_third q0_list q0_list_items q0_page q0_single q0_parts k0_first_row k0_list_items k0_list_size) → va_S A s.heap H locs → lv_has ls 7 [(0, .ref q0), (2, .int p2), (3, .int p3), (4, .int x4), (5, .int x5), (6, .int x6)] → glX5_rise p l e s m args below meth c G A q0 q0_first q0_first_row q0_second q0_third q0_list q0_list_items q0_page q0_single q0_parts res H locs 68 ls [] := by
  obtain ⟨hx, hb, hml, hown, hts, hr, hlocks, hA, hG⟩ := id C
  induction n with
  | zero => intro k0_first_row k0_list_items k0_list_size x4 x5 x6 H locs ls hf hP hD hS hl; cases hf
  | succ n ih =>
    intro k0_first_row k0_list_items k0_list_size x4 x5 x6 H locs ls hf hP hD hS hl
    simp only [fX5_rise_L68] at hf
    refine lv_iload hx hb dX5_rise_68 (lv_at hl 5 rfl) ?_
    refine lv_bipush (v := (9 : Int32)) hx hb dX5_rise_70 (by decide) ?_
    refine lv_icmp_gt (tgt := 95) hx hb dX5_rise_72 (by decide) (fun hc => ?_) (fun hc => ?_)
    · have hf := if_t hc hf
      obtain ⟨y1, ey1⟩ : ∃ z : Int32, z = x5 + (1 : Int32) := ⟨_, rfl⟩
      have hf := nm_use ey1 hf
      refine lv_iinc (v := y1) (lv' := [(5, .int y1), (0, .ref q0), (2, .int p2), (3, .int p3), (4, .int x4), (6, .int x6)]) hx hb dX5_rise_95 hl (k := 4) rfl (by rw [ey1]; rfl) (by decide) rfl (fun ls hl => ?_)
      refine lv_goto (tgt := 57) hx hb dX5_rise_98 (by decide) ?_
      exact hr57 k0_first_row k0_list_items k0_list_size x4 y1 _ _ ls hf hP hD hS (lv_sub hl [1, 2, 3, 4, 0] rfl)
    · have hf := if_f hc hf
      refine lv_aload_n hx hb dX5_rise_75 rfl (lv_at hl 0 rfl) ?_
      refine lv_aload_n hx hb dX5_rise_76 rfl (lv_at hl 0 rfl) ?_
      refine va_get (D := G.1) (ci := 5) (v := .ref q0_first) (C := RX5) (T := TX5) (N := 7) hx hb hts nX5_rise_X5 hown hG.1 hP 0 rfl rfl 0 (by decide) (hts _ mX5_rise_0) (fun _ h9 => h9) rfl dX5_rise_77 ?_
      refine lv_iload hx hb dX5_rise_80 (lv_at hl 4 rfl) ?_
      refine lv_iload hx hb dX5_rise_82 (lv_at hl 5 rfl) ?_
      refine lv_iload hx hb dX5_rise_84 (lv_at hl 3 rfl) ?_
      obtain ⟨r2, hr2, hf⟩ := bd_use hf
      refine cl_V (wn := (wdX5_rise G q0 q0_first q0_first_row q0_second q0_third q0_list q0_list_items q0_page q0_single q0_parts r2.2.2 r2.1 r2.2.1)) (st1 := []) C hP hD hS (tX5_putExchanged l G q0 q0_first q0_second q0_third q0_list q0_list_items q0_page q0_single q0_parts q0_first q0_first_row k0_list_items k0_list_size k0_first_row x5 x6 x4 r2 hr2) (cwV 4 hts gX5_rise_X5_putExchanged rfl rfl rfl (by decide +kernel) ⟨Nat.le_of_ble_eq_true rfl, Nat.le_of_ble_eq_true rfl⟩) [0, 3, 4, 1, 2] [] [0, 3, 4, 1, 2] rfl rfl rfl rfl (by decide) rfl rfl (ci := 5) (q0 := 0) rfl rfl rfl rfl hl.1 rfl rfl (Nat.le_of_ble_eq_true rfl) dX5_rise_86 (fun H locs hP hD hS => ?_)
      obtain ⟨y3, ey3⟩ : ∃ z : Int32, z = x6 + (1 : Int32) := ⟨_, rfl⟩
      have hf := nm_use ey3 hf
      refine lv_iinc (v := y3) (lv' := [(6, .int y3), (0, .ref q0), (2, .int p2), (3, .int p3), (4, .int x4), (5, .int x5)]) hx hb dX5_rise_89 hl (k := 5) rfl (by rw [ey3]; rfl) (by decide) rfl (fun ls hl => ?_)
      refine lv_goto (tgt := 68) hx hb dX5_rise_92 (by decide) ?_
      exact ih r2.2.2 r2.1 r2.2.1 x4 x5 y3 _ _ ls hf hP hD hS (lv_sub hl [1, 2, 3, 4, 5, 0] rfl)
set_option maxHeartbeats 4000000 in
set_option maxRecDepth 100000 in
theorem wX5_rise_57 {p : Program} {l : Launch} {e : Env} {s : State} {m : MethodId} {args : Array Value} {below : List Frame} {meth : Method} {c : Code} {G : GX} {A : Nat → Prop} (C : Cx p s m args meth c cX5_rise 7 (some .int) wsX5_rise RX5 G A) (q0 : Nat) (q0_first : Nat) (q0_first_row : Nat) (q0_second : Nat) (q0_third : Nat) (q0_list : Nat) (q0_list_items : Nat) (q0_page : Nat) (q0_single : Nat) (q0_parts : Nat) (p1 : Int32) (p2 : Int32) (p3 : Int32) (res : Int32 × (Nat → Int32) × (Nat → Int32) × Int32) (n : Nat) : ∀ (k0_first_row : Nat → Int32) (k0_list_items : Nat → Int32) (k0_list_size : Int32) (x4 : Int32) (x5 : Int32) (H : Heap) (locs : List Loc) (ls : Array Slot), fX5_rise_L57 p1 p2 p3 n k0_first_row k0_list_items k0_list_size x4 x5 = some res → va_P G.1 vwCl (wdX5_rise G q0 q0_first q0_first_row q0_second q0_third q0_list q0_list_items q0_page q0_single q0_parts k0_first_row k0_list_items k0_list_size) H → va_D A (wdX5_rise G q0 q0_first q0_first_row q0_second q0_third q0_list q0_list_items q0_page q0_single q0_parts k0_first_row k0_list_items k0_list_size) → va_S A s.heap H locs → lv_has ls 7 [(0, .ref q0), (2, .int p2), (3, .int p3), (4, .int x4), (5, .int x5)] → glX5_rise p l e s m args below meth c G A q0 q0_first q0_first_row q0_second q0_third q0_list q0_list_items q0_page q0_single q0_parts res H locs 57 ls [] := by
  obtain ⟨hx, hb, hml, hown, hts, hr, hlocks, hA, hG⟩ := id C
  induction n with
  | zero => intro k0_first_row k0_list_items k0_list_size x4 x5 H locs ls hf hP hD hS hl; cases hf
  | succ n ih =>
    intro k0_first_row k0_list_items k0_list_size x4 x5 H locs ls hf hP hD hS hl
    simp only [fX5_rise_L57] at hf
    refine lv_iload hx hb dX5_rise_57 (lv_at hl 4 rfl) ?_
    refine lv_iload_n hx hb dX5_rise_59 rfl (lv_at hl 1 rfl) ?_
    refine lv_icmp_gt (tgt := 101) hx hb dX5_rise_60 (by decide) (fun hc => ?_) (fun hc => ?_)
    · have hf := if_t hc hf
      refine lv_aload_n hx hb dX5_rise_101 rfl (lv_at hl 0 rfl) ?_
      refine va_get (D := G.1) (ci := 5) (v := .ref q0_list) (C := RX5) (T := TX5) (N := 7) hx hb hts nX5_rise_X5 hown hG.1 hP 0 rfl rfl 3 (by decide) (hts _ mX5_rise_1) (fun _ h9 => h9) rfl dX5_rise_102 ?_
      refine lv_iload_n hx hb dX5_rise_105 rfl (lv_at hl 2 rfl) ?_
      obtain ⟨r4, hr4, hf⟩ := bd_use hf
      refine cl_V (wn := (wdX5_rise G q0 q0_first q0_first_row q0_second q0_third q0_list q0_list_items q0_page q0_single q0_parts k0_first_row k0_list_items k0_list_size)) (st1 := [.int r4]) C hP hD hS (tX0_answer l G 32 q0_list q0_list_items k0_list_items k0_list_size p3 r4 hr4) (cwV 1 hts gX5_rise_X0_answer rfl rfl rfl (by decide +kernel) ⟨Nat.le_of_ble_eq_true rfl, Nat.le_of_ble_eq_true rfl⟩) [3, 4] [0, 1, 2] [0, 1, 2, 3, 4] rfl rfl rfl rfl (by decide) rfl rfl (ci := 0) (q0 := 3) rfl rfl rfl rfl hl.1 rfl rfl (Nat.le_of_ble_eq_true rfl) dX5_rise_106 (fun H locs hP hD hS => ?_)
      cases hf
      exact rt_i C hP hD hS dX5_rise_109
    · have hf := if_f hc hf
      refine lv_iload_n hx hb dX5_rise_63 rfl (lv_at hl 1 rfl) ?_
      refine lv_iconst (v := (1 : Int32)) hx hb dX5_rise_64 (by decide) ?_
      refine lv_iadd hx hb dX5_rise_65 ?_
      refine lv_topi (fun y5 ey5 => ?_)
      have hf := nm_use ey5 hf
      refine lv_istore (lv' := [(6, .int y5), (0, .ref q0), (2, .int p2), (3, .int p3), (4, .int x4), (5, .int x5)]) hx hb dX5_rise_66 hl (by decide) rfl (fun ls hl => ?_)
      exact wX5_rise_68 C q0 q0_first q0_first_row q0_second q0_third q0_list q0_list_items q0_page q0_single q0_parts p1 p2 p3 res (fX5_rise_L57 p1 p2 p3 n) ih fu k0_first_row k0_list_items k0_list_size x4 x5 y5 _ _ ls hf hP hD hS (lv_sub hl [1, 2, 3, 4, 5, 0] rfl)
set_option maxHeartbeats 4000000 in
set_option maxRecDepth 100000 in
theorem tX5_rise (l : Launch) (G : GX) (q0 : Nat) (q0_first : Nat) (q0_first_row : Nat) (q0_second : Nat) (q0_third : Nat) (q0_list : Nat) (q0_list_items : Nat) (q0_page : Nat) (q0_single : Nat) (q0_parts : Nat) (k0_first_row : Nat → Int32) (k0_list_items : Nat → Int32) (k0_list_size : Int32) (p1 : Int32) (p2 : Int32) (p3 : Int32) (res : Int32 × (Nat → Int32) × (Nat → Int32) × Int32) (hf : fX5_rise k0_first_row k0_list_items k0_list_size p1 p2 p3 = some res) : Ct l yX5_rise wsX5_rise rmX5_rise G [.ref q0, .int p1, .int p2, .int p3] (wdX5_rise G q0 q0_first q0_first_row q0_second q0_third q0_list q0_list_items q0_page q0_single q0_parts k0_first_row k0_list_items k0_list_size) (wdX5_rise G q0 q0_first q0_first_row q0_second q0_third q0_list q0_list_items q0_page q0_single q0_parts res.2.1 res.2.2.1 res.2.2.2) (some (.int res.1)) := by
  refine Ct.of (cc := cX5_rise) (nL := 7) (ret := (some .int)) (by decide) rfl (Nat.le_of_ble_eq_true rfl) rfl ?_
  intro p e s m below meth c A ls C hP hD hl
  obtain ⟨hx, hb, hml, hown, hts, hr, hlocks, hA, hG⟩ := id C
  have hS : va_S A s.heap s.heap [] := va_S.rf
  unfold fX5_rise at hf
  refine lv_iload_n hx hb dX5_rise_0 rfl (lv_at hl 1 rfl) ?_
  refine lv_ldc (v := (99999999 : Int32)) hx hb hown (hts _ mX5_rise_2) dX5_rise_1 ?_
  refine lv_icmp_gt (tgt := 33) hx hb dX5_rise_3 (by decide) (fun hc => ?_) (fun hc => ?_)
  · have hf := if_t hc hf
    refine lv_bipush (v := (-2 : Int32)) hx hb dX5_rise_33 (by decide) ?_
    cases hf
    exact rt_i C hP hD hS dX5_rise_35
  · have hf := if_f hc hf
    refine lv_aload_n hx hb dX5_rise_6 rfl (lv_at hl 0 rfl) ?_
    refine va_get (D := G.1) (ci := 5) (v := .ref q0_first) (C := RX5) (T := TX5) (N := 7) hx hb hts nX5_rise_X5 hown hG.1 hP 0 rfl rfl 0 (by decide) (hts _ mX5_rise_0) (fun _ h9 => h9) rfl dX5_rise_7 ?_
    refine lv_iload_n hx hb dX5_rise_10 rfl (lv_at hl 1 rfl) ?_
    obtain ⟨r6, hr6, hf⟩ := bd_use hf
    refine cl_V (wn := (wdX5_rise G q0 q0_first q0_first_row q0_second q0_third q0_list q0_list_items q0_page q0_single q0_parts r6.2 k0_list_items k0_list_size)) (st1 := [.int r6.1]) C hP hD hS (tX1_read l G q0_first q0_first_row k0_first_row p1 r6 hr6) (cwV 1 hts gX5_rise_X1_read rfl rfl rfl (by decide +kernel) ⟨Nat.le_of_ble_eq_true rfl, Nat.le_of_ble_eq_true rfl⟩) [1, 2] [0, 3, 4] [0, 3, 4, 1, 2] rfl rfl rfl rfl (by decide) rfl rfl (ci := 1) (q0 := 1) rfl rfl rfl rfl hl.1 rfl rfl (Nat.le_of_ble_eq_true rfl) dX5_rise_11 (fun H locs hP hD hS => ?_)
    refine lv_if_eq (tgt := 33) hx hb dX5_rise_14 (by decide) (fun hc => ?_) (fun hc => ?_)
    · have hf := if_t hc hf
      refine lv_bipush (v := (-2 : Int32)) hx hb dX5_rise_33 (by decide) ?_
      cases hf
      exact rt_i C hP hD hS dX5_rise_35
    · have hf := if_f hc hf
      refine lv_iload_n hx hb dX5_rise_17 rfl (lv_at hl 2 rfl) ?_
      refine lv_iconst (v := (1 : Int32)) hx hb dX5_rise_18 (by decide) ?_
      refine lv_icmp_lt (tgt := 33) hx hb dX5_rise_19 (by decide) (fun hc => ?_) (fun hc => ?_)
      · have hf := if_t hc hf
        refine lv_bipush (v := (-2 : Int32)) hx hb dX5_rise_33 (by decide) ?_
        cases hf
        exact rt_i C hP hD hS dX5_rise_35
      · have hf := if_f hc hf
        refine lv_iload_n hx hb dX5_rise_22 rfl (lv_at hl 2 rfl) ?_
        refine lv_bipush (v := (9 : Int32)) hx hb dX5_rise_23 (by decide) ?_
        refine lv_icmp_ge (tgt := 33) hx hb dX5_rise_25 (by decide) (fun hc => ?_) (fun hc => ?_)
        · have hf := if_t hc hf
          refine lv_bipush (v := (-2 : Int32)) hx hb dX5_rise_33 (by decide) ?_
          cases hf
          exact rt_i C hP hD hS dX5_rise_35
        · have hf := if_f hc hf
          refine lv_iload_n hx hb dX5_rise_28 rfl (lv_at hl 3 rfl) ?_
          refine lv_iconst (v := (-1 : Int32)) hx hb dX5_rise_29 (by decide) ?_
          refine lv_icmp_ge (tgt := 36) hx hb dX5_rise_30 (by decide) (fun hc => ?_) (fun hc => ?_)
          · have hf := if_t hc hf
            refine lv_aload_n hx hb dX5_rise_36 rfl (lv_at hl 0 rfl) ?_
            refine va_get (D := G.1) (ci := 5) (v := .ref q0_first) (C := RX5) (T := TX5) (N := 7) hx hb hts nX5_rise_X5 hown hG.1 hP 0 rfl rfl 0 (by decide) (hts _ mX5_rise_0) (fun _ h9 => h9) rfl dX5_rise_37 ?_
            obtain ⟨r7, hr7, hf⟩ := bd_use hf
            refine cl_V (wn := (wdX5_rise G q0 q0_first q0_first_row q0_second q0_third q0_list q0_list_items q0_page q0_single q0_parts r6.2 k0_list_items k0_list_size)) (st1 := [.int r7]) C hP hD hS (tX1_inversions l G q0_first q0_first_row r6.2 r7 hr7) (cwV 0 hts gX5_rise_X1_inversions rfl rfl rfl (by decide +kernel) ⟨Nat.le_of_ble_eq_true rfl, Nat.le_of_ble_eq_true rfl⟩) [1, 2] [0, 3, 4] [0, 3, 4, 1, 2] rfl rfl rfl rfl (by decide) rfl rfl (ci := 1) (q0 := 1) rfl rfl rfl rfl hl.1 rfl rfl (Nat.le_of_ble_eq_true rfl) dX5_rise_40 (fun H locs hP hD hS => ?_)
            refine lv_iconst (v := (1 : Int32)) hx hb dX5_rise_43 (by decide) ?_
            refine lv_iadd hx hb dX5_rise_44 ?_
            refine lv_topi (fun y8 ey8 => ?_)
            have hf := nm_use ey8 hf
            refine lv_istore (lv' := [(4, .int y8), (0, .ref q0), (1, .int p1), (2, .int p2), (3, .int p3)]) hx hb dX5_rise_45 hl (by decide) rfl (fun ls hl => ?_)
            refine lv_aload_n hx hb dX5_rise_47 rfl (lv_at hl 1 rfl) ?_
            refine va_get (D := G.1) (ci := 5) (v := .ref q0_list) (C := RX5) (T := TX5) (N := 7) hx hb hts nX5_rise_X5 hown hG.1 hP 0 rfl rfl 3 (by decide) (hts _ mX5_rise_1) (fun _ h9 => h9) rfl dX5_rise_48 ?_
            obtain ⟨r9, hr9, hf⟩ := bd_use hf
            refine cl_V (wn := (wdX5_rise G q0 q0_first q0_first_row q0_second q0_third q0_list q0_list_items q0_page q0_single q0_parts r6.2 k0_list_items r9)) (st1 := []) C hP hD hS (tX0_clear l G q0_list q0_list_items k0_list_size r9 hr9) (cwV 0 hts gX5_rise_X0_clear rfl rfl rfl (by decide +kernel) ⟨Nat.le_of_ble_eq_true rfl, Nat.le_of_ble_eq_true rfl⟩) [3] [0, 1, 2, 4] [0, 1, 2, 4, 3] rfl rfl rfl rfl (by decide) rfl rfl (ci := 0) (q0 := 3) rfl rfl rfl rfl hl.1 rfl rfl (Nat.le_of_ble_eq_true rfl) dX5_rise_51 (fun H locs hP hD hS => ?_)
            refine lv_iconst (v := (1 : Int32)) hx hb dX5_rise_54 (by decide) ?_
            refine lv_istore (lv' := [(5, .int (1 : Int32)), (4, .int y8), (0, .ref q0), (1, .int p1), (2, .int p2), (3, .int p3)]) hx hb dX5_rise_55 hl (by decide) rfl (fun ls hl => ?_)
            exact wX5_rise_57 C q0 q0_first q0_first_row q0_second q0_third q0_list q0_list_items q0_page q0_single q0_parts p1 p2 p3 res fu r6.2 k0_list_items r9 y8 (1 : Int32) _ _ ls hf hP hD hS (lv_sub hl [2, 4, 5, 1, 0] rfl)
          · have hf := if_f hc hf
            refine lv_bipush (v := (-2 : Int32)) hx hb dX5_rise_33 (by decide) ?_
            cases hf
            exact rt_i C hP hD hS dX5_rise_35
abbrev wdX5_step (G : GX) (q0 : Nat) (q0_first : Nat) (q0_first_row : Nat) (q0_second : Nat) (q0_third : Nat) (q0_list : Nat) (q0_list_items : Nat) (q0_page : Nat) (q0_single : Nat) (q0_parts : Nat) (k0_first_row : Nat → Int32) (k0_list_items : Nat → Int32) (k0_list_size : Int32) : va_W := [(q0, .inr (5, [.ref q0_first, .ref q0_second, .ref q0_third, .ref q0_list, .ref q0_page, .ref q0_single, .ref q0_parts])), (q0_first, .inr (1, [.ref q0_first_row])), (q0_first_row, .inl (G.2.1, 10, .inl k0_first_row)), (q0_list, .inr (0, [.ref q0_list_items, .int k0_list_size])), (q0_list_items, .inl (G.2.1, 32, .inl k0_list_items))]
abbrev rmX5_step : Room := { frames := 4, cells := 0, slots := 0, locals := 107 }
abbrev glX5_step (p : Program) (l : Launch) (e : Env) (s : State) (m : MethodId) (args : Array Value) (below : List Frame) (meth : Method) (c : Code) (G : GX) (A : Nat → Prop) (q0 : Nat) (q0_first : Nat) (q0_first_row : Nat) (q0_second : Nat) (q0_third : Nat) (q0_list : Nat) (q0_list_items : Nat) (q0_page : Nat) (q0_single : Nat) (q0_parts : Nat) (res : Int32 × (Nat → Int32) × (Nat → Int32) × Int32) (H : Heap) (locs : List Loc) (pc : Nat) (ls : Array Slot) (st : List Value) : Prop := W p l e rmX5_step s m args below meth c H locs 0 0 (MQ below (ctQ G A (wdX5_step G q0 q0_first q0_first_row q0_second q0_third q0_list q0_list_items q0_page q0_single q0_parts res.2.1 res.2.2.1 res.2.2.2) (some (.int res.1))) args s 0 0 A) (F0 m pc ls st)
set_option maxRecDepth 20000 in
theorem mX5_step_0 : Cond.fieldLink RX5 29 "SchubertDesk" "list" "LSchubertDesk$Ascending;" ∈ wsX5_step := by decide +kernel
set_option maxRecDepth 20000 in
theorem mX5_step_1 : Cond.fieldLink RX5 12 "SchubertDesk" "first" "LSchubertDesk$Digits;" ∈ wsX5_step := by decide +kernel
set_option maxRecDepth 20000 in
theorem nX5_step_X5 : ∀ w ∈ u_ws RX5 TX5 7, w ∈ wsX5_step := by decide +kernel
set_option maxHeartbeats 4000000 in
set_option maxRecDepth 100000 in
theorem wX5_step_144 {p : Program} {l : Launch} {e : Env} {s : State} {m : MethodId} {args : Array Value} {below : List Frame} {meth : Method} {c : Code} {G : GX} {A : Nat → Prop} (C : Cx p s m args meth c cX5_step 7 (some .int) wsX5_step RX5 G A) (q0 : Nat) (q0_first : Nat) (q0_first_row : Nat) (q0_second : Nat) (q0_third : Nat) (q0_list : Nat) (q0_list_items : Nat) (q0_page : Nat) (q0_single : Nat) (q0_parts : Nat) (p1 : Int32) (p2 : Int32) (res : Int32 × (Nat → Int32) × (Nat → Int32) × Int32) : ∀ (k0_first_row : Nat → Int32) (k0_list_items : Nat → Int32) (k0_list_size : Int32) (s1 : Int32) (H : Heap) (locs : List Loc) (ls : Array Slot), fX5_step_b144 p1 p2 k0_first_row k0_list_items k0_list_size s1 = some res → va_P G.1 vwCl (wdX5_step G q0 q0_first q0_first_row q0_second q0_third q0_list q0_list_items q0_page q0_single q0_parts k0_first_row k0_list_items k0_list_size) H → va_D A (wdX5_step G q0 q0_first q0_first_row q0_second q0_third q0_list q0_list_items q0_page q0_single q0_parts k0_first_row k0_list_items k0_list_size) → va_S A s.heap H locs → lv_has ls 7 [] → glX5_step p l e s m args below meth c G A q0 q0_first q0_first_row q0_second q0_third q0_list q0_list_items q0_page q0_single q0_parts res H locs 144 ls [.int s1, .ref q0_list] := by
  obtain ⟨hx, hb, hml, hown, hts, hr, hlocks, hA, hG⟩ := id C
  intro k0_first_row k0_list_items k0_list_size s1 H locs ls hf hP hD hS hl
  unfold fX5_step_b144 at hf
  obtain ⟨r1, hr1, hf⟩ := bd_use hf
  refine cl_V (wn := (wdX5_step G q0 q0_first q0_first_row q0_second q0_third q0_list q0_list_items q0_page q0_single q0_parts k0_first_row k0_list_items k0_list_size)) (st1 := [.int r1]) C hP hD hS (tX0_answer l G 32 q0_list q0_list_items k0_list_items k0_list_size s1 r1 hr1) (cwV 1 hts gX5_step_X0_answer rfl rfl rfl (by decide +kernel) ⟨Nat.le_of_ble_eq_true rfl, Nat.le_of_ble_eq_true rfl⟩) [3, 4] [0, 1, 2] [0, 1, 2, 3, 4] rfl rfl rfl rfl (by decide) rfl rfl (ci := 0) (q0 := 3) rfl rfl rfl rfl hl.1 rfl rfl (Nat.le_of_ble_eq_true rfl) dX5_step_144 (fun H locs hP hD hS => ?_)
  cases hf
  exact rt_i C hP hD hS dX5_step_147
set_option maxHeartbeats 4000000 in
set_option maxRecDepth 100000 in
theorem wX5_step_103 {p : Program} {l : Launch} {e : Env} {s : State} {m : MethodId} {args : Array Value} {below : List Frame} {meth : Method} {c : Code} {G : GX} {A : Nat → Prop} (C : Cx p s m args meth c cX5_step 7 (some .int) wsX5_step RX5 G A) (q0 : Nat) (q0_first : Nat) (q0_first_row : Nat) (q0_second : Nat) (q0_third : Nat) (q0_list : Nat) (q0_list_items : Nat) (q0_page : Nat) (q0_single : Nat) (q0_parts : Nat) (p1 : Int32) (p2 : Int32) (res : Int32 × (Nat → Int32) × (Nat → Int32) × Int32) (n : Nat) : ∀ (k0_first_row : Nat → Int32) (k0_list_items : Nat → Int32) (k0_list_size : Int32) (x3 : Int32) (x5 : Int32) (x6 : Int32) (H : Heap) (locs : List Loc) (ls : Array Slot), fX5_step_L103 p1 p2 n k0_first_row k0_list_items k0_list_size x3 x5 x6 = some res → va_P G.1 vwCl (wdX5_step G q0 q0_first q0_first_row q0_second q0_third q0_list q0_list_items q0_page q0_single q0_parts k0_first_row k0_list_items k0_list_size) H → va_D A (wdX5_step G q0 q0_first q0_first_row q0_second q0_third q0_list q0_list_items q0_page q0_single q0_parts k0_first_row k0_list_items k0_list_size) → va_S A s.heap H locs → lv_has ls 7 [(0, .ref q0), (2, .int p2), (3, .int x3), (5, .int x5), (6, .int x6)] → glX5_step p l e s m args below meth c G A q0 q0_first q0_first_row q0_second q0_third q0_list q0_list_items q0_page q0_single q0_parts res H locs 103 ls [] := by
  obtain ⟨hx, hb, hml, hown, hts, hr, hlocks, hA, hG⟩ := id C
  induction n with
  | zero => intro k0_first_row k0_list_items k0_list_size x3 x5 x6 H locs ls hf hP hD hS hl; cases hf
  | succ n ih =>
    intro k0_first_row k0_list_items k0_list_size x3 x5 x6 H locs ls hf hP hD hS hl
    simp only [fX5_step_L103] at hf
    refine lv_iload hx hb dX5_step_103 (lv_at hl 4 rfl) ?_
    refine lv_iload_n hx hb dX5_step_105 rfl (lv_at hl 2 rfl) ?_
    refine lv_icmp_ge (tgt := 128) hx hb dX5_step_106 (by decide) (fun hc => ?_) (fun hc => ?_)
    · have hf := if_t hc hf
      refine lv_aload_n hx hb dX5_step_128 rfl (lv_at hl 0 rfl) ?_
      refine va_get (D := G.1) (ci := 5) (v := .ref q0_list) (C := RX5) (T := TX5) (N := 7) hx hb hts nX5_step_X5 hown hG.1 hP 0 rfl rfl 3 (by decide) (hts _ mX5_step_0) (fun _ h9 => h9) rfl dX5_step_129 ?_
      refine lv_iload_n hx hb dX5_step_132 rfl (lv_at hl 1 rfl) ?_
      refine lv_iconst (v := (-1 : Int32)) hx hb dX5_step_133 (by decide) ?_
      refine lv_icmp_ne (tgt := 141) hx hb dX5_step_134 (by decide) (fun hc => ?_) (fun hc => ?_)
      · have hf := if_f hc hf
        refine lv_iload_n hx hb dX5_step_141 rfl (lv_at hl 1 rfl) ?_
        refine lv_iconst (v := (1 : Int32)) hx hb dX5_step_142 (by decide) ?_
        refine lv_isub hx hb dX5_step_143 ?_
        exact wX5_step_144 C q0 q0_first q0_first_row q0_second q0_third q0_list q0_list_items q0_page q0_single q0_parts p1 p2 res k0_first_row k0_list_items k0_list_size (p2 - (1 : Int32)) _ _ ls hf hP hD hS (lv_sub hl [] rfl)
      · have hf := if_t hc hf
        refine lv_iconst (v := (-1 : Int32)) hx hb dX5_step_137 (by decide) ?_
        refine lv_goto (tgt := 144) hx hb dX5_step_138 (by decide) ?_
        exact wX5_step_144 C q0 q0_first q0_first_row q0_second q0_third q0_list q0_list_items q0_page q0_single q0_parts p1 p2 res k0_first_row k0_list_items k0_list_size (-1 : Int32) _ _ ls hf hP hD hS (lv_sub hl [] rfl)
    · have hf := if_f hc hf
      refine lv_aload_n hx hb dX5_step_109 rfl (lv_at hl 0 rfl) ?_
      refine lv_aload_n hx hb dX5_step_110 rfl (lv_at hl 0 rfl) ?_
      refine va_get (D := G.1) (ci := 5) (v := .ref q0_first) (C := RX5) (T := TX5) (N := 7) hx hb hts nX5_step_X5 hown hG.1 hP 0 rfl rfl 0 (by decide) (hts _ mX5_step_1) (fun _ h9 => h9) rfl dX5_step_111 ?_
      refine lv_iload hx hb dX5_step_114 (lv_at hl 4 rfl) ?_
      refine lv_iload_n hx hb dX5_step_116 rfl (lv_at hl 2 rfl) ?_
      refine lv_iload hx hb dX5_step_117 (lv_at hl 3 rfl) ?_
      obtain ⟨r2, hr2, hf⟩ := bd_use hf
      refine cl_V (wn := (wdX5_step G q0 q0_first q0_first_row q0_second q0_third q0_list q0_list_items q0_page q0_single q0_parts r2.2.2 r2.1 r2.2.1)) (st1 := []) C hP hD hS (tX5_putExchanged l G q0 q0_first q0_second q0_third q0_list q0_list_items q0_page q0_single q0_parts q0_first q0_first_row k0_list_items k0_list_size k0_first_row x6 x3 x5 r2 hr2) (cwV 4 hts gX5_step_X5_putExchanged rfl rfl rfl (by decide +kernel) ⟨Nat.le_of_ble_eq_true rfl, Nat.le_of_ble_eq_true rfl⟩) [0, 3, 4, 1, 2] [] [0, 3, 4, 1, 2] rfl rfl rfl rfl (by decide) rfl rfl (ci := 5) (q0 := 0) rfl rfl rfl rfl hl.1 rfl rfl (Nat.le_of_ble_eq_true rfl) dX5_step_119 (fun H locs hP hD hS => ?_)
      obtain ⟨y3, ey3⟩ : ∃ z : Int32, z = x6 + (1 : Int32) := ⟨_, rfl⟩
      have hf := nm_use ey3 hf
      refine lv_iinc (v := y3) (lv' := [(6, .int y3), (0, .ref q0), (2, .int p2), (3, .int x3), (5, .int x5)]) hx hb dX5_step_122 hl (k := 4) rfl (by rw [ey3]; rfl) (by decide) rfl (fun ls hl => ?_)
      refine lv_goto (tgt := 103) hx hb dX5_step_125 (by decide) ?_
      exact ih r2.2.2 r2.1 r2.2.1 x3 x5 y3 _ _ ls hf hP hD hS (lv_sub hl [1, 2, 3, 4, 0] rfl)
set_option maxHeartbeats 4000000 in
set_option maxRecDepth 100000 in
theorem tX5_step (l : Launch) (G : GX) (q0 : Nat) (q0_first : Nat) (q0_first_row : Nat) (q0_second : Nat) (q0_third : Nat) (q0_list : Nat) (q0_list_items : Nat) (q0_page : Nat) (q0_single : Nat) (q0_parts : Nat) (k0_first_row : Nat → Int32) (k0_list_items : Nat → Int32) (k0_list_size : Int32) (p1 : Int32) (p2 : Int32) (res : Int32 × (Nat → Int32) × (Nat → Int32) × Int32) (hf : fX5_step k0_first_row k0_list_items k0_list_size p1 p2 = some res) : Ct l yX5_step wsX5_step rmX5_step G [.ref q0, .int p1, .int p2] (wdX5_step G q0 q0_first q0_first_row q0_second q0_third q0_list q0_list_items q0_page q0_single q0_parts k0_first_row k0_list_items k0_list_size) (wdX5_step G q0 q0_first q0_first_row q0_second q0_third q0_list q0_list_items q0_page q0_single q0_parts res.2.1 res.2.2.1 res.2.2.2) (some (.int res.1)) := by
  refine Ct.of (cc := cX5_step) (nL := 7) (ret := (some .int)) (by decide) rfl (Nat.le_of_ble_eq_true rfl) rfl ?_
  intro p e s m below meth c A ls C hP hD hl
  obtain ⟨hx, hb, hml, hown, hts, hr, hlocks, hA, hG⟩ := id C
  have hS : va_S A s.heap s.heap [] := va_S.rf
  unfold fX5_step at hf
  refine lv_aload_n hx hb dX5_step_0 rfl (lv_at hl 0 rfl) ?_
  refine va_get (D := G.1) (ci := 5) (v := .ref q0_first) (C := RX5) (T := TX5) (N := 7) hx hb hts nX5_step_X5 hown hG.1 hP 0 rfl rfl 0 (by decide) (hts _ mX5_step_1) (fun _ h9 => h9) rfl dX5_step_1 ?_
  refine lv_iload_n hx hb dX5_step_4 rfl (lv_at hl 1 rfl) ?_
  obtain ⟨r4, hr4, hf⟩ := bd_use hf
  refine cl_V (wn := (wdX5_step G q0 q0_first q0_first_row q0_second q0_third q0_list q0_list_items q0_page q0_single q0_parts r4.2 k0_list_items k0_list_size)) (st1 := [.int r4.1]) C hP hD hS (tX1_read l G q0_first q0_first_row k0_first_row p1 r4 hr4) (cwV 1 hts gX5_step_X1_read rfl rfl rfl (by decide +kernel) ⟨Nat.le_of_ble_eq_true rfl, Nat.le_of_ble_eq_true rfl⟩) [1, 2] [0, 3, 4] [0, 3, 4, 1, 2] rfl rfl rfl rfl (by decide) rfl rfl (ci := 1) (q0 := 1) rfl rfl rfl rfl hl.1 rfl rfl (Nat.le_of_ble_eq_true rfl) dX5_step_5 (fun H locs hP hD hS => ?_)
  refine lv_if_eq (tgt := 17) hx hb dX5_step_8 (by decide) (fun hc => ?_) (fun hc => ?_)
  · have hf := if_t hc hf
    refine lv_bipush (v := (-2 : Int32)) hx hb dX5_step_17 (by decide) ?_
    cases hf
    exact rt_i C hP hD hS dX5_step_19
  · have hf := if_f hc hf
    refine lv_iload_n hx hb dX5_step_11 rfl (lv_at hl 2 rfl) ?_
    refine lv_bipush (v := (-3 : Int32)) hx hb dX5_step_12 (by decide) ?_
    refine lv_icmp_ge (tgt := 20) hx hb dX5_step_14 (by decide) (fun hc => ?_) (fun hc => ?_)
    · have hf := if_t hc hf
      refine lv_aload_n hx hb dX5_step_20 rfl (lv_at hl 0 rfl) ?_
      refine va_get (D := G.1) (ci := 5) (v := .ref q0_first) (C := RX5) (T := TX5) (N := 7) hx hb hts nX5_step_X5 hown hG.1 hP 0 rfl rfl 0 (by decide) (hts _ mX5_step_1) (fun _ h9 => h9) rfl dX5_step_21 ?_
      obtain ⟨r5, hr5, hf⟩ := bd_use hf
      refine cl_V (wn := (wdX5_step G q0 q0_first q0_first_row q0_second q0_third q0_list q0_list_items q0_page q0_single q0_parts r4.2 k0_list_items k0_list_size)) (st1 := [.int r5]) C hP hD hS (tX1_lastDescent l G q0_first q0_first_row r4.2 r5 hr5) (cwV 0 hts gX5_step_X1_lastDescent rfl rfl rfl (by decide +kernel) ⟨Nat.le_of_ble_eq_true rfl, Nat.le_of_ble_eq_true rfl⟩) [1, 2] [0, 3, 4] [0, 3, 4, 1, 2] rfl rfl rfl rfl (by decide) rfl rfl (ci := 1) (q0 := 1) rfl rfl rfl rfl hl.1 rfl rfl (Nat.le_of_ble_eq_true rfl) dX5_step_24 (fun H locs hP hD hS => ?_)
      refine lv_istore_n (lv' := [(3, .int r5), (0, .ref q0), (1, .int p1), (2, .int p2)]) hx hb dX5_step_27 rfl hl (by decide) rfl (fun ls hl => ?_)
      refine lv_iload_n hx hb dX5_step_28 rfl (lv_at hl 0 rfl) ?_
      refine lv_if_ne (tgt := 35) hx hb dX5_step_29 (by decide) (fun hc => ?_) (fun hc => ?_)
      · have hf := if_f hc hf
        refine lv_aload_n hx hb dX5_step_35 rfl (lv_at hl 1 rfl) ?_
        refine va_get (D := G.1) (ci := 5) (v := .ref q0_first) (C := RX5) (T := TX5) (N := 7) hx hb hts nX5_step_X5 hown hG.1 hP 0 rfl rfl 0 (by decide) (hts _ mX5_step_1) (fun _ h9 => h9) rfl dX5_step_36 ?_
        refine lv_iload_n hx hb dX5_step_39 rfl (lv_at hl 0 rfl) ?_
        obtain ⟨r6, hr6, hf⟩ := bd_use hf
        refine cl_V (wn := (wdX5_step G q0 q0_first q0_first_row q0_second q0_third q0_list q0_list_items q0_page q0_single q0_parts r4.2 k0_list_items k0_list_size)) (st1 := [.int r6]) C hP hD hS (tX1_lastLessThan l G q0_first q0_first_row r4.2 r5 r6 hr6) (cwV 1 hts gX5_step_X1_lastLessThan rfl rfl rfl (by decide +kernel) ⟨Nat.le_of_ble_eq_true rfl, Nat.le_of_ble_eq_true rfl⟩) [1, 2] [0, 3, 4] [0, 3, 4, 1, 2] rfl rfl rfl rfl (by decide) rfl rfl (ci := 1) (q0 := 1) rfl rfl rfl rfl hl.1 rfl rfl (Nat.le_of_ble_eq_true rfl) dX5_step_40 (fun H locs hP hD hS => ?_)
        refine lv_istore (lv' := [(4, .int r6), (3, .int r5), (0, .ref q0), (1, .int p1), (2, .int p2)]) hx hb dX5_step_43 hl (by decide) rfl (fun ls hl => ?_)
        refine lv_iload_n hx hb dX5_step_45 rfl (lv_at hl 4 rfl) ?_
        refine lv_bipush (v := (-3 : Int32)) hx hb dX5_step_46 (by decide) ?_
        refine lv_icmp_ne (tgt := 53) hx hb dX5_step_48 (by decide) (fun hc => ?_) (fun hc => ?_)
        · have hf := if_f hc hf
          refine lv_iload_n hx hb dX5_step_53 rfl (lv_at hl 4 rfl) ?_
          refine lv_bipush (v := (-2 : Int32)) hx hb dX5_step_54 (by decide) ?_
          refine lv_icmp_ne (tgt := 62) hx hb dX5_step_56 (by decide) (fun hc => ?_) (fun hc => ?_)
          · have hf := if_f hc hf
            refine lv_aload_n hx hb dX5_step_62 rfl (lv_at hl 2 rfl) ?_
            refine va_get (D := G.1) (ci := 5) (v := .ref q0_first) (C := RX5) (T := TX5) (N := 7) hx hb hts nX5_step_X5 hown hG.1 hP 0 rfl rfl 0 (by decide) (hts _ mX5_step_1) (fun _ h9 => h9) rfl dX5_step_63 ?_
            obtain ⟨r7, hr7, hf⟩ := bd_use hf
            refine cl_V (wn := (wdX5_step G q0 q0_first q0_first_row q0_second q0_third q0_list q0_list_items q0_page q0_single q0_parts r4.2 k0_list_items k0_list_size)) (st1 := [.int r7]) C hP hD hS (tX1_inversions l G q0_first q0_first_row r4.2 r7 hr7) (cwV 0 hts gX5_step_X1_inversions rfl rfl rfl (by decide +kernel) ⟨Nat.le_of_ble_eq_true rfl, Nat.le_of_ble_eq_true rfl⟩) [1, 2] [0, 3, 4] [0, 3, 4, 1, 2] rfl rfl rfl rfl (by decide) rfl rfl (ci := 1) (q0 := 1) rfl rfl rfl rfl hl.1 rfl rfl (Nat.le_of_ble_eq_true rfl) dX5_step_66 (fun H locs hP hD hS => ?_)
            refine lv_istore (lv' := [(5, .int r7), (4, .int r6), (3, .int r5), (0, .ref q0), (1, .int p1), (2, .int p2)]) hx hb dX5_step_69 hl (by decide) rfl (fun ls hl => ?_)
            refine lv_aload_n hx hb dX5_step_71 rfl (lv_at hl 3 rfl) ?_
            refine va_get (D := G.1) (ci := 5) (v := .ref q0_first) (C := RX5) (T := TX5) (N := 7) hx hb hts nX5_step_X5 hown hG.1 hP 0 rfl rfl 0 (by decide) (hts _ mX5_step_1) (fun _ h9 => h9) rfl dX5_step_72 ?_
            refine lv_iload_n hx hb dX5_step_75 rfl (lv_at hl 2 rfl) ?_
            refine lv_iload hx hb dX5_step_76 (lv_at hl 1 rfl) ?_
            obtain ⟨r8, hr8, hf⟩ := bd_use hf
            refine cl_V (wn := (wdX5_step G q0 q0_first q0_first_row q0_second q0_third q0_list q0_list_items q0_page q0_single q0_parts r8 k0_list_items k0_list_size)) (st1 := []) C hP hD hS (tX1_exchange l G q0_first q0_first_row r4.2 r5 r6 r8 hr8) (cwV 2 hts gX5_step_X1_exchange rfl rfl rfl (by decide +kernel) ⟨Nat.le_of_ble_eq_true rfl, Nat.le_of_ble_eq_true rfl⟩) [1, 2] [0, 3, 4] [0, 3, 4, 1, 2] rfl rfl rfl rfl (by decide) rfl rfl (ci := 1) (q0 := 1) rfl rfl rfl rfl hl.1 rfl rfl (Nat.le_of_ble_eq_true rfl) dX5_step_78 (fun H locs hP hD hS => ?_)
            refine lv_iload_n hx hb dX5_step_81 rfl (lv_at hl 5 rfl) ?_
            refine lv_if_ne (tgt := 93) hx hb dX5_step_82 (by decide) (fun hc => ?_) (fun hc => ?_)
            · have hf := if_f hc hf
              refine lv_aload_n hx hb dX5_step_93 rfl (lv_at hl 3 rfl) ?_
              refine va_get (D := G.1) (ci := 5) (v := .ref q0_list) (C := RX5) (T := TX5) (N := 7) hx hb hts nX5_step_X5 hown hG.1 hP 0 rfl rfl 3 (by decide) (hts _ mX5_step_0) (fun _ h9 => h9) rfl dX5_step_94 ?_
              obtain ⟨r9, hr9, hf⟩ := bd_use hf
              refine cl_V (wn := (wdX5_step G q0 q0_first q0_first_row q0_second q0_third q0_list q0_list_items q0_page q0_single q0_parts r8 k0_list_items r9)) (st1 := []) C hP hD hS (tX0_clear l G q0_list q0_list_items k0_list_size r9 hr9) (cwV 0 hts gX5_step_X0_clear rfl rfl rfl (by decide +kernel) ⟨Nat.le_of_ble_eq_true rfl, Nat.le_of_ble_eq_true rfl⟩) [3] [0, 1, 2, 4] [0, 1, 2, 4, 3] rfl rfl rfl rfl (by decide) rfl rfl (ci := 0) (q0 := 3) rfl rfl rfl rfl hl.1 rfl rfl (Nat.le_of_ble_eq_true rfl) dX5_step_97 (fun H locs hP hD hS => ?_)
              refine lv_iconst (v := (1 : Int32)) hx hb dX5_step_100 (by decide) ?_
              refine lv_istore (lv' := [(6, .int (1 : Int32)), (5, .int r7), (4, .int r6), (3, .int r5), (0, .ref q0), (1, .int p1), (2, .int p2)]) hx hb dX5_step_101 hl (by decide) rfl (fun ls hl => ?_)
              exact wX5_step_103 C q0 q0_first q0_first_row q0_second q0_third q0_list q0_list_items q0_page q0_single q0_parts p1 p2 res fu r8 k0_list_items r9 r5 r7 (1 : Int32) _ _ ls hf hP hD hS (lv_sub hl [4, 6, 3, 1, 0] rfl)
            · have hf := if_t hc hf
              refine lv_aload_n hx hb dX5_step_85 rfl (lv_at hl 3 rfl) ?_
              refine va_get (D := G.1) (ci := 5) (v := .ref q0_first) (C := RX5) (T := TX5) (N := 7) hx hb hts nX5_step_X5 hown hG.1 hP 0 rfl rfl 0 (by decide) (hts _ mX5_step_1) (fun _ h9 => h9) rfl dX5_step_86 ?_
              obtain ⟨r10, hr10, hf⟩ := bd_use hf
              refine cl_V (wn := (wdX5_step G q0 q0_first q0_first_row q0_second q0_third q0_list q0_list_items q0_page q0_single q0_parts r8 k0_list_items k0_list_size)) (st1 := [.int r10]) C hP hD hS (tX1_plainNumber l G q0_first q0_first_row r8 r10 hr10) (cwV 0 hts gX5_step_X1_plainNumber rfl rfl rfl (by decide +kernel) ⟨Nat.le_of_ble_eq_true rfl, Nat.le_of_ble_eq_true rfl⟩) [1, 2] [0, 3, 4] [0, 3, 4, 1, 2] rfl rfl rfl rfl (by decide) rfl rfl (ci := 1) (q0 := 1) rfl rfl rfl rfl hl.1 rfl rfl (Nat.le_of_ble_eq_true rfl) dX5_step_89 (fun H locs hP hD hS => ?_)
              cases hf
              exact rt_i C hP hD hS dX5_step_92
          · have hf := if_t hc hf
            refine lv_iload hx hb dX5_step_59 (lv_at hl 0 rfl) ?_
            cases hf
            exact rt_i C hP hD hS dX5_step_61
        · have hf := if_t hc hf
          refine lv_iload_n hx hb dX5_step_51 rfl (lv_at hl 1 rfl) ?_
          cases hf
          exact rt_i C hP hD hS dX5_step_52
      · have hf := if_t hc hf
        refine lv_bipush (v := (-3 : Int32)) hx hb dX5_step_32 (by decide) ?_
        cases hf
        exact rt_i C hP hD hS dX5_step_34
    · have hf := if_f hc hf
      refine lv_bipush (v := (-2 : Int32)) hx hb dX5_step_17 (by decide) ?_
      cases hf
      exact rt_i C hP hD hS dX5_step_19
