abbrev wdX5_difference (G : GX) (q0 : Nat) (q0_first : Nat) (q0_second : Nat) (q0_third : Nat) (q0_list : Nat) (q0_page : Nat) (q0_page_cell : Nat) (q0_page_top : Nat) (q0_single : Nat) (q0_parts : Nat) (q0_parts_counts : Nat) (q0_parts_counts_cell : Nat) (q0_parts_counts_top : Nat) (q0_parts_numbers : Nat) (k0_page_cell : Nat → Int64) (k0_parts_counts_cell : Nat → Int64) (k0_parts_counts_top : Nat → Int32) (k0_parts_known : Int32) : va_W := [(q0, .inr (5, [.ref q0_first, .ref q0_second, .ref q0_third, .ref q0_list, .ref q0_page, .ref q0_single, .ref q0_parts])), (q0_page, .inr (2, [.ref q0_page_cell, .ref q0_page_top])), (q0_page_cell, .inl (G.2.2.1, 3024, .inr (.inl k0_page_cell))), (q0_parts, .inr (3, [.ref q0_parts_counts, .ref q0_parts_numbers, .int k0_parts_known])), (q0_parts_counts, .inr (2, [.ref q0_parts_counts_cell, .ref q0_parts_counts_top])), (q0_parts_counts_cell, .inl (G.2.2.1, 3024, .inr (.inl k0_parts_counts_cell))), (q0_parts_counts_top, .inl (G.2.1, 5, .inl k0_parts_counts_top))]
abbrev rmX5_difference : Room := { frames := 4, cells := 0, slots := 0, locals := 139 }
abbrev glX5_difference (p : Program) (l : Launch) (e : Env) (s : State) (m : MethodId) (args : Array Value) (below : List Frame) (meth : Method) (c : Code) (G : GX) (A : Nat → Prop) (q0 : Nat) (q0_first : Nat) (q0_second : Nat) (q0_third : Nat) (q0_list : Nat) (q0_page : Nat) (q0_page_cell : Nat) (q0_page_top : Nat) (q0_single : Nat) (q0_parts : Nat) (q0_parts_counts : Nat) (q0_parts_counts_cell : Nat) (q0_parts_counts_top : Nat) (q0_parts_numbers : Nat) (res : Int32 × (Nat → Int64) × (Nat → Int64) × (Nat → Int32) × Int32) (H : Heap) (locs : List Loc) (pc : Nat) (ls : Array Slot) (st : List Value) : Prop := W p l e rmX5_difference s m args below meth c H locs 0 0 (MQ below (ctQ G A (wdX5_difference G q0 q0_first q0_second q0_third q0_list q0_page q0_page_cell q0_page_top q0_single q0_parts q0_parts_counts q0_parts_counts_cell q0_parts_counts_top q0_parts_numbers res.2.1 res.2.2.1 res.2.2.2.1 res.2.2.2.2) (some (.int res.1))) args s 0 0 A) (F0 m pc ls st)
set_option maxRecDepth 20000 in
theorem mX5_difference_0 : Cond.fieldLink RX5 50 "SchubertDesk" "parts" "LSchubertDesk$Parts;" ∈ wsX5_difference := by decide +kernel
set_option maxRecDepth 20000 in
theorem mX5_difference_1 : Cond.fieldLink RX5 36 "SchubertDesk" "page" "LSchubertDesk$Grid;" ∈ wsX5_difference := by decide +kernel
set_option maxRecDepth 20000 in
theorem nX5_difference_X5 : ∀ w ∈ u_ws RX5 TX5 7, w ∈ wsX5_difference := by decide +kernel
set_option maxHeartbeats 4000000 in
set_option maxRecDepth 100000 in
theorem tX5_difference (l : Launch) (G : GX) (q0 : Nat) (q0_first : Nat) (q0_second : Nat) (q0_third : Nat) (q0_list : Nat) (q0_page : Nat) (q0_page_cell : Nat) (q0_page_top : Nat) (q0_single : Nat) (q0_parts : Nat) (q0_parts_counts : Nat) (q0_parts_counts_cell : Nat) (q0_parts_counts_top : Nat) (q0_parts_numbers : Nat) (k0_page_cell : Nat → Int64) (k0_parts_counts_cell : Nat → Int64) (k0_parts_counts_top : Nat → Int32) (k0_parts_known : Int32) (p1 : Int32) (res : Int32 × (Nat → Int64) × (Nat → Int64) × (Nat → Int32) × Int32) (hf : fX5_difference k0_page_cell k0_parts_counts_cell k0_parts_counts_top k0_parts_known p1 = some res) : Ct l yX5_difference wsX5_difference rmX5_difference G [.ref q0, .int p1] (wdX5_difference G q0 q0_first q0_second q0_third q0_list q0_page q0_page_cell q0_page_top q0_single q0_parts q0_parts_counts q0_parts_counts_cell q0_parts_counts_top q0_parts_numbers k0_page_cell k0_parts_counts_cell k0_parts_counts_top k0_parts_known) (wdX5_difference G q0 q0_first q0_second q0_third q0_list q0_page q0_page_cell q0_page_top q0_single q0_parts q0_parts_counts q0_parts_counts_cell q0_parts_counts_top q0_parts_numbers res.2.1 res.2.2.1 res.2.2.2.1 res.2.2.2.2) (some (.int res.1)) := by
  refine Ct.of (cc := cX5_difference) (nL := 3) (ret := (some .int)) (by decide) rfl (Nat.le_of_ble_eq_true rfl) rfl ?_
  intro p e s m below meth c A ls C hP hD hl
  obtain ⟨hx, hb, hml, hown, hts, hr, hlocks, hA, hG⟩ := id C
  have hS : va_S A s.heap s.heap [] := va_S.rf
  unfold fX5_difference at hf
  refine lv_iload_n hx hb dX5_difference_0 rfl (lv_at hl 1 rfl) ?_
  refine lv_iconst (v := (1 : Int32)) hx hb dX5_difference_1 (by decide) ?_
  refine lv_icmp_lt (tgt := 10) hx hb dX5_difference_2 (by decide) (fun hc => ?_) (fun hc => ?_)
  · have hf := if_t hc hf
    refine lv_bipush (v := (-2 : Int32)) hx hb dX5_difference_10 (by decide) ?_
    cases hf
    exact rt_i C hP hD hS dX5_difference_12
  · have hf := if_f hc hf
    refine lv_iload_n hx hb dX5_difference_5 rfl (lv_at hl 1 rfl) ?_
    refine lv_iconst (v := (4 : Int32)) hx hb dX5_difference_6 (by decide) ?_
    refine lv_icmp_lt (tgt := 13) hx hb dX5_difference_7 (by decide) (fun hc => ?_) (fun hc => ?_)
    · have hf := if_t hc hf
      refine lv_aload_n hx hb dX5_difference_13 rfl (lv_at hl 0 rfl) ?_
      refine va_get (D := G.1) (ci := 5) (v := .ref q0_parts) (C := RX5) (T := TX5) (N := 7) hx hb hts nX5_difference_X5 hown hG.1 hP 0 rfl rfl 6 (by decide) (hts _ mX5_difference_0) (fun _ h9 => h9) rfl dX5_difference_14 ?_
      obtain ⟨r1, hr1, hf⟩ := bd_use hf
      refine cl_V (wn := (wdX5_difference G q0 q0_first q0_second q0_third q0_list q0_page q0_page_cell q0_page_top q0_single q0_parts q0_parts_counts q0_parts_counts_cell q0_parts_counts_top q0_parts_numbers k0_page_cell k0_parts_counts_cell k0_parts_counts_top r1)) (st1 := [.ref q0_parts_counts]) C hP hD hS (tX3_lendCells l G q0_parts q0_parts_counts q0_parts_numbers k0_parts_known r1 hr1) (cwV 0 hts gX5_difference_X3_lendCells rfl rfl rfl (by decide +kernel) ⟨Nat.le_of_ble_eq_true rfl, Nat.le_of_ble_eq_true rfl⟩) [3] [0, 1, 2, 4, 5, 6] [0, 1, 2, 6, 3, 4, 5] rfl rfl rfl rfl (by decide) rfl rfl (ci := 3) (q0 := 3) rfl rfl rfl rfl hl.1 rfl rfl (Nat.le_of_ble_eq_true rfl) dX5_difference_17 (fun H locs hP hD hS => ?_)
      refine lv_astore_n (lv' := [(2, .ref q0_parts_counts), (0, .ref q0), (1, .int p1)]) hx hb dX5_difference_20 rfl hl (by decide) rfl (fun ls hl => ?_)
      refine lv_aload_n hx hb dX5_difference_21 rfl (lv_at hl 0 rfl) ?_
      refine lv_aload_n hx hb dX5_difference_22 rfl (lv_at hl 1 rfl) ?_
      refine va_get (D := G.1) (ci := 5) (v := .ref q0_page) (C := RX5) (T := TX5) (N := 7) hx hb hts nX5_difference_X5 hown hG.1 hP 0 rfl rfl 4 (by decide) (hts _ mX5_difference_1) (fun _ h9 => h9) rfl dX5_difference_23 ?_
      obtain ⟨r2, hr2, hf⟩ := bd_use hf
      refine cl_V (wn := (wdX5_difference G q0 q0_first q0_second q0_third q0_list q0_page q0_page_cell q0_page_top q0_single q0_parts q0_parts_counts q0_parts_counts_cell q0_parts_counts_top q0_parts_numbers k0_page_cell r2 k0_parts_counts_top r1)) (st1 := []) C hP hD hS (tX2_copy l G q0_parts_counts q0_parts_counts_cell q0_parts_counts_top q0_page q0_page_cell q0_page_top k0_parts_counts_cell k0_page_cell r2 hr2) (cwV 1 hts gX5_difference_X2_copy rfl rfl rfl (by decide +kernel) ⟨Nat.le_of_ble_eq_true rfl, Nat.le_of_ble_eq_true rfl⟩) [4, 5, 1, 2] [0, 3, 6] [0, 5, 6, 1, 3, 4, 2] rfl rfl rfl rfl (by decide) rfl rfl (ci := 2) (q0 := 4) rfl rfl rfl rfl hl.1 rfl rfl (Nat.le_of_ble_eq_true rfl) dX5_difference_26 (fun H locs hP hD hS => ?_)
      refine lv_aload_n hx hb dX5_difference_29 rfl (lv_at hl 0 rfl) ?_
      obtain ⟨r3, hr3, hf⟩ := bd_use hf
      refine cl_V (wn := (wdX5_difference G q0 q0_first q0_second q0_third q0_list q0_page q0_page_cell q0_page_top q0_single q0_parts q0_parts_counts q0_parts_counts_cell q0_parts_counts_top q0_parts_numbers k0_page_cell r2 r3 r1)) (st1 := []) C hP hD hS (tX2_measure l G q0_parts_counts q0_parts_counts_cell q0_parts_counts_top r2 k0_parts_counts_top r3 hr3) (cwV 0 hts gX5_difference_X2_measure rfl rfl rfl (by decide +kernel) ⟨Nat.le_of_ble_eq_true rfl, Nat.le_of_ble_eq_true rfl⟩) [4, 5, 6] [0, 1, 2, 3] [0, 1, 2, 3, 4, 5, 6] rfl rfl rfl rfl (by decide) rfl rfl (ci := 2) (q0 := 4) rfl rfl rfl rfl hl.1 rfl rfl (Nat.le_of_ble_eq_true rfl) dX5_difference_30 (fun H locs hP hD hS => ?_)
      refine lv_aload_n hx hb dX5_difference_33 rfl (lv_at hl 0 rfl) ?_
      refine lv_iload_n hx hb dX5_difference_34 rfl (lv_at hl 2 rfl) ?_
      refine lv_iconst (v := (0 : Int32)) hx hb dX5_difference_35 (by decide) ?_
      refine lv_aload_n hx hb dX5_difference_36 rfl (lv_at hl 0 rfl) ?_
      obtain ⟨r4, hr4, hf⟩ := bd_use hf
      refine cl_V (wn := (wdX5_difference G q0 q0_first q0_second q0_third q0_list q0_page q0_page_cell q0_page_top q0_single q0_parts q0_parts_counts q0_parts_counts_cell q0_parts_counts_top q0_parts_numbers k0_page_cell r2 r3 r1)) (st1 := [.int r4, .int (0 : Int32), .int p1, .ref q0_parts_counts]) C hP hD hS (tX2_degreeBound l G q0_parts_counts q0_parts_counts_cell q0_parts_counts_top r3 r4 hr4) (cwV 0 hts gX5_difference_X2_degreeBound rfl rfl rfl (by decide +kernel) ⟨Nat.le_of_ble_eq_true rfl, Nat.le_of_ble_eq_true rfl⟩) [4, 6] [0, 1, 2, 3, 5] [0, 1, 2, 3, 5, 4, 6] rfl rfl rfl rfl (by decide) rfl rfl (ci := 2) (q0 := 4) rfl rfl rfl rfl hl.1 rfl rfl (Nat.le_of_ble_eq_true rfl) dX5_difference_37 (fun H locs hP hD hS => ?_)
      obtain ⟨r5, hr5, hf⟩ := bd_use hf
      refine cl_V (wn := (wdX5_difference G q0 q0_first q0_second q0_third q0_list q0_page q0_page_cell q0_page_top q0_single q0_parts q0_parts_counts q0_parts_counts_cell q0_parts_counts_top q0_parts_numbers k0_page_cell r5.1 r5.2 r1)) (st1 := []) C hP hD hS (tX2_differ l G q0_parts_counts q0_parts_counts_cell q0_parts_counts_top r2 r3 p1 (0 : Int32) r4 r5 hr5) (cwV 3 hts gX5_difference_X2_differ rfl rfl rfl (by decide +kernel) ⟨Nat.le_of_ble_eq_true rfl, Nat.le_of_ble_eq_true rfl⟩) [4, 5, 6] [0, 1, 2, 3] [0, 1, 2, 3, 4, 5, 6] rfl rfl rfl rfl (by decide) rfl rfl (ci := 2) (q0 := 4) rfl rfl rfl rfl hl.1 rfl rfl (Nat.le_of_ble_eq_true rfl) dX5_difference_40 (fun H locs hP hD hS => ?_)
      refine lv_aload_n hx hb dX5_difference_43 rfl (lv_at hl 1 rfl) ?_
      refine lv_aload_n hx hb dX5_difference_44 rfl (lv_at hl 0 rfl) ?_
      obtain ⟨r6, hr6, hf⟩ := bd_use hf
      refine cl_V (wn := (wdX5_difference G q0 q0_first q0_second q0_third q0_list q0_page q0_page_cell q0_page_top q0_single q0_parts q0_parts_counts q0_parts_counts_cell q0_parts_counts_top q0_parts_numbers r6.2 r5.1 r5.2 r1)) (st1 := [.int r6.1]) C hP hD hS (tX5_takeDraft l G q0 q0_first q0_second q0_third q0_list q0_page q0_page_cell q0_page_top q0_single q0_parts q0_parts_counts q0_parts_counts_cell q0_parts_counts_top k0_page_cell r5.1 r6 hr6) (cwV 1 hts gX5_difference_X5_takeDraft rfl rfl rfl (by decide +kernel) ⟨Nat.le_of_ble_eq_true rfl, Nat.le_of_ble_eq_true rfl⟩) [0, 1, 2, 4, 5] [3, 6] [2, 3, 4, 0, 5, 6, 1] rfl rfl rfl rfl (by decide) rfl rfl (ci := 5) (q0 := 0) rfl rfl rfl rfl hl.1 rfl rfl (Nat.le_of_ble_eq_true rfl) dX5_difference_45 (fun H locs hP hD hS => ?_)
      cases hf
      exact rt_i C hP hD hS dX5_difference_48
    · have hf := if_f hc hf
      refine lv_bipush (v := (-2 : Int32)) hx hb dX5_difference_10 (by decide) ?_
      cases hf
      exact rt_i C hP hD hS dX5_difference_12
abbrev wdX5_sheet (G : GX) (q0 : Nat) (q0_first : Nat) (q0_second : Nat) (q0_third : Nat) (q0_list : Nat) (q0_page : Nat) (q0_page_cell : Nat) (q0_page_top : Nat) (q0_single : Nat) (q0_parts : Nat) (k0_page_cell : Nat → Int64) : va_W := [(q0, .inr (5, [.ref q0_first, .ref q0_second, .ref q0_third, .ref q0_list, .ref q0_page, .ref q0_single, .ref q0_parts])), (q0_page, .inr (2, [.ref q0_page_cell, .ref q0_page_top])), (q0_page_cell, .inl (G.2.2.1, 3024, .inr (.inl k0_page_cell)))]
abbrev rmX5_sheet : Room := { frames := 2, cells := 0, slots := 0, locals := 46 }
abbrev glX5_sheet (p : Program) (l : Launch) (e : Env) (s : State) (m : MethodId) (args : Array Value) (below : List Frame) (meth : Method) (c : Code) (G : GX) (A : Nat → Prop) (q0 : Nat) (q0_first : Nat) (q0_second : Nat) (q0_third : Nat) (q0_list : Nat) (q0_page : Nat) (q0_page_cell : Nat) (q0_page_top : Nat) (q0_single : Nat) (q0_parts : Nat) (k0_page_cell : Nat → Int64) (res : Int64) (H : Heap) (locs : List Loc) (pc : Nat) (ls : Array Slot) (st : List Value) : Prop := W p l e rmX5_sheet s m args below meth c H locs 0 0 (MQ below (ctQ G A (wdX5_sheet G q0 q0_first q0_second q0_third q0_list q0_page q0_page_cell q0_page_top q0_single q0_parts k0_page_cell) (some (.long res))) args s 0 0 A) (F0 m pc ls st)
set_option maxRecDepth 20000 in
theorem mX5_sheet_0 : Cond.fieldLink RX5 36 "SchubertDesk" "page" "LSchubertDesk$Grid;" ∈ wsX5_sheet := by decide +kernel
set_option maxRecDepth 20000 in
theorem mX5_sheet_1 : Cond.constantLong RX5 122 (-9223372036854775808) ∈ wsX5_sheet := by decide +kernel
set_option maxRecDepth 20000 in
theorem nX5_sheet_X5 : ∀ w ∈ u_ws RX5 TX5 7, w ∈ wsX5_sheet := by decide +kernel
set_option maxHeartbeats 4000000 in
set_option maxRecDepth 100000 in
theorem tX5_sheet (l : Launch) (G : GX) (q0 : Nat) (q0_first : Nat) (q0_second : Nat) (q0_third : Nat) (q0_list : Nat) (q0_page : Nat) (q0_page_cell : Nat) (q0_page_top : Nat) (q0_single : Nat) (q0_parts : Nat) (k0_page_cell : Nat → Int64) (p1 : Int32) (p2 : Int32) (p3 : Int32) (p4 : Int32) (res : Int64) (hf : fX5_sheet k0_page_cell p1 p2 p3 p4 = some res) : Ct l yX5_sheet wsX5_sheet rmX5_sheet G [.ref q0, .int p1, .int p2, .int p3, .int p4] (wdX5_sheet G q0 q0_first q0_second q0_third q0_list q0_page q0_page_cell q0_page_top q0_single q0_parts k0_page_cell) (wdX5_sheet G q0 q0_first q0_second q0_third q0_list q0_page q0_page_cell q0_page_top q0_single q0_parts k0_page_cell) (some (.long res)) := by
  refine Ct.of (cc := cX5_sheet) (nL := 5) (ret := (some .long)) (by decide) rfl (Nat.le_of_ble_eq_true rfl) rfl ?_
  intro p e s m below meth c A ls C hP hD hl
  obtain ⟨hx, hb, hml, hown, hts, hr, hlocks, hA, hG⟩ := id C
  have hS : va_S A s.heap s.heap [] := va_S.rf
  unfold fX5_sheet at hf
  refine lv_iload_n hx hb dX5_sheet_0 rfl (lv_at hl 1 rfl) ?_
  refine lv_iload_n hx hb dX5_sheet_1 rfl (lv_at hl 2 rfl) ?_
  refine lv_iload_n hx hb dX5_sheet_2 rfl (lv_at hl 3 rfl) ?_
  refine lv_iload hx hb dX5_sheet_3 (lv_at hl 4 rfl) ?_
  obtain ⟨r1, hr1, hf⟩ := bd_use hf
  refine cl_S (wn := (wdX5_sheet G q0 q0_first q0_second q0_third q0_list q0_page q0_page_cell q0_page_top q0_single q0_parts k0_page_cell)) (st1 := [.int r1]) C hP hD hS (tX5_isAnyNegative l G p1 p2 p3 p4 r1 hr1) (va_cwS 4 hts gX5_sheet_X5_isAnyNegative rfl rfl rfl (by decide +kernel) ⟨Nat.le_of_ble_eq_true rfl, Nat.le_of_ble_eq_true rfl⟩) [] [0, 1, 2] [0, 1, 2] rfl rfl rfl rfl (by decide) rfl rfl rfl hl.1 rfl rfl (Nat.le_of_ble_eq_true rfl) dX5_sheet_5 (fun H locs hP hD hS => ?_)
  refine lv_if_eq (tgt := 15) hx hb dX5_sheet_8 (by decide) (fun hc => ?_) (fun hc => ?_)
  · have hf := if_t hc hf
    refine lv_aload_n hx hb dX5_sheet_15 rfl (lv_at hl 0 rfl) ?_
    refine va_get (D := G.1) (ci := 5) (v := .ref q0_page) (C := RX5) (T := TX5) (N := 7) hx hb hts nX5_sheet_X5 hown hG.1 hP 0 rfl rfl 4 (by decide) (hts _ mX5_sheet_0) (fun _ h9 => h9) rfl dX5_sheet_16 ?_
    refine lv_iload_n hx hb dX5_sheet_19 rfl (lv_at hl 1 rfl) ?_
    refine lv_iload_n hx hb dX5_sheet_20 rfl (lv_at hl 2 rfl) ?_
    refine lv_iload_n hx hb dX5_sheet_21 rfl (lv_at hl 3 rfl) ?_
    refine lv_iload hx hb dX5_sheet_22 (lv_at hl 4 rfl) ?_
    obtain ⟨r2, hr2, hf⟩ := bd_use hf
    refine cl_S (wn := (wdX5_sheet G q0 q0_first q0_second q0_third q0_list q0_page q0_page_cell q0_page_top q0_single q0_parts k0_page_cell)) (st1 := [.int r2, .ref q0_page]) C hP hD hS (tX5_cellOf l G p1 p2 p3 p4 r2 hr2) (va_cwS 4 hts gX5_sheet_X5_cellOf rfl rfl rfl (by decide +kernel) ⟨Nat.le_of_ble_eq_true rfl, Nat.le_of_ble_eq_true rfl⟩) [] [0, 1, 2] [0, 1, 2] rfl rfl rfl rfl (by decide) rfl rfl rfl hl.1 rfl rfl (Nat.le_of_ble_eq_true rfl) dX5_sheet_24 (fun H locs hP hD hS => ?_)
    obtain ⟨r3, hr3, hf⟩ := bd_use hf
    refine cl_V (wn := (wdX5_sheet G q0 q0_first q0_second q0_third q0_list q0_page q0_page_cell q0_page_top q0_single q0_parts k0_page_cell)) (st1 := [.long r3]) C hP hD hS (tX2_at l G q0_page q0_page_cell q0_page_top k0_page_cell r2 r3 hr3) (cwV 1 hts gX5_sheet_X2_at rfl rfl rfl (by decide +kernel) ⟨Nat.le_of_ble_eq_true rfl, Nat.le_of_ble_eq_true rfl⟩) [1, 2] [0] [0, 1, 2] rfl rfl rfl rfl (by decide) rfl rfl (ci := 2) (q0 := 1) rfl rfl rfl rfl hl.1 rfl rfl (Nat.le_of_ble_eq_true rfl) dX5_sheet_27 (fun H locs hP hD hS => ?_)
    cases hf
    exact rt_l C hP hD hS dX5_sheet_30
  · have hf := if_f hc hf
    refine lv_ldc2 (v := (-9223372036854775808 : Int64)) hx hb hown (hts _ mX5_sheet_1) dX5_sheet_11 ?_
    cases hf
    exact rt_l C hP hD hS dX5_sheet_14
abbrev wdX5_part (G : GX) (q0 : Nat) (q0_first : Nat) (q0_first_row : Nat) (q0_second : Nat) (q0_third : Nat) (q0_list : Nat) (q0_page : Nat) (q0_page_cell : Nat) (q0_page_top : Nat) (q0_single : Nat) (q0_single_grid : Nat) (q0_single_grid_cell : Nat) (q0_single_grid_top : Nat) (q0_single_code : Nat) (q0_single_way : Nat) (q0_parts : Nat) (q0_parts_counts : Nat) (q0_parts_counts_cell : Nat) (q0_parts_counts_top : Nat) (q0_parts_numbers : Nat) (q0_parts_numbers_items : Nat) (k0_first_row : Nat → Int32) (k0_page_cell : Nat → Int64) (k0_single_grid_cell : Nat → Int64) (k0_single_grid_top : Nat → Int32) (k0_single_code : Nat → Int32) (k0_single_way : Nat → Int32) (k0_single_made : Int32) (k0_parts_counts_cell : Nat → Int64) (k0_parts_numbers_items : Nat → Int32) (k0_parts_numbers_size : Int32) (k0_parts_known : Int32) : va_W := [(q0, .inr (5, [.ref q0_first, .ref q0_second, .ref q0_third, .ref q0_list, .ref q0_page, .ref q0_single, .ref q0_parts])), (q0_first, .inr (1, [.ref q0_first_row])), (q0_first_row, .inl (G.2.1, 10, .inl k0_first_row)), (q0_page, .inr (2, [.ref q0_page_cell, .ref q0_page_top])), (q0_page_cell, .inl (G.2.2.1, 3024, .inr (.inl k0_page_cell))), (q0_single, .inr (4, [.ref q0_single_grid, .ref q0_single_code, .ref q0_single_way, .int k0_single_made])), (q0_single_grid, .inr (2, [.ref q0_single_grid_cell, .ref q0_single_grid_top])), (q0_single_grid_cell, .inl (G.2.2.1, 3024, .inr (.inl k0_single_grid_cell))), (q0_single_grid_top, .inl (G.2.1, 5, .inl k0_single_grid_top)), (q0_single_code, .inl (G.2.1, 5, .inl k0_single_code)), (q0_single_way, .inl (G.2.1, 6, .inl k0_single_way)), (q0_parts, .inr (3, [.ref q0_parts_counts, .ref q0_parts_numbers, .int k0_parts_known])), (q0_parts_counts, .inr (2, [.ref q0_parts_counts_cell, .ref q0_parts_counts_top])), (q0_parts_counts_cell, .inl (G.2.2.1, 3024, .inr (.inl k0_parts_counts_cell))), (q0_parts_numbers, .inr (0, [.ref q0_parts_numbers_items, .int k0_parts_numbers_size])), (q0_parts_numbers_items, .inl (G.2.1, 3024, .inl k0_parts_numbers_items))]
abbrev rmX5_part : Room := { frames := 6, cells := 0, slots := 0, locals := 189 }
abbrev glX5_part (p : Program) (l : Launch) (e : Env) (s : State) (m : MethodId) (args : Array Value) (below : List Frame) (meth : Method) (c : Code) (G : GX) (A : Nat → Prop) (q0 : Nat) (q0_first : Nat) (q0_first_row : Nat) (q0_second : Nat) (q0_third : Nat) (q0_list : Nat) (q0_page : Nat) (q0_page_cell : Nat) (q0_page_top : Nat) (q0_single : Nat) (q0_single_grid : Nat) (q0_single_grid_cell : Nat) (q0_single_grid_top : Nat) (q0_single_code : Nat) (q0_single_way : Nat) (q0_parts : Nat) (q0_parts_counts : Nat) (q0_parts_counts_cell : Nat) (q0_parts_counts_top : Nat) (q0_parts_numbers : Nat) (q0_parts_numbers_items : Nat) (k0_page_cell : Nat → Int64) (res : Int32 × (Nat → Int32) × (Nat → Int64) × (Nat → Int32) × (Nat → Int32) × (Nat → Int32) × Int32 × (Nat → Int64) × (Nat → Int32) × Int32 × Int32) (H : Heap) (locs : List Loc) (pc : Nat) (ls : Array Slot) (st : List Value) : Prop := W p l e rmX5_part s m args below meth c H locs 0 0 (MQ below (ctQ G A (wdX5_part G q0 q0_first q0_first_row q0_second q0_third q0_list q0_page q0_page_cell q0_page_top q0_single q0_single_grid q0_single_grid_cell q0_single_grid_top q0_single_code q0_single_way q0_parts q0_parts_counts q0_parts_counts_cell q0_parts_counts_top q0_parts_numbers q0_parts_numbers_items res.2.1 k0_page_cell res.2.2.1 res.2.2.2.1 res.2.2.2.2.1 res.2.2.2.2.2.1 res.2.2.2.2.2.2.1 res.2.2.2.2.2.2.2.1 res.2.2.2.2.2.2.2.2.1 res.2.2.2.2.2.2.2.2.2.1 res.2.2.2.2.2.2.2.2.2.2) (some (.int res.1))) args s 0 0 A) (F0 m pc ls st)
set_option maxRecDepth 20000 in
theorem mX5_part_0 : Cond.fieldLink RX5 50 "SchubertDesk" "parts" "LSchubertDesk$Parts;" ∈ wsX5_part := by decide +kernel
set_option maxRecDepth 20000 in
theorem mX5_part_1 : Cond.fieldLink RX5 36 "SchubertDesk" "page" "LSchubertDesk$Grid;" ∈ wsX5_part := by decide +kernel
set_option maxRecDepth 20000 in
theorem mX5_part_2 : Cond.fieldLink RX5 43 "SchubertDesk" "single" "LSchubertDesk$Single;" ∈ wsX5_part := by decide +kernel
set_option maxRecDepth 20000 in
theorem mX5_part_3 : Cond.fieldLink RX5 12 "SchubertDesk" "first" "LSchubertDesk$Digits;" ∈ wsX5_part := by decide +kernel
set_option maxRecDepth 20000 in
theorem mX5_part_4 : Cond.fieldLink RX5 171 "SchubertDesk$Parts" "numbers" "LSchubertDesk$Ascending;" ∈ wsX5_part := by decide +kernel
set_option maxRecDepth 20000 in
theorem nX5_part_X5 : ∀ w ∈ u_ws RX5 TX5 7, w ∈ wsX5_part := by decide +kernel
set_option maxRecDepth 20000 in
theorem nX5_part_X3 : ∀ w ∈ u_ws RX3 TX3 3, w ∈ wsX5_part := by decide +kernel
set_option maxHeartbeats 4000000 in
set_option maxRecDepth 100000 in
theorem tX5_part (l : Launch) (G : GX) (q0 : Nat) (q0_first : Nat) (q0_first_row : Nat) (q0_second : Nat) (q0_third : Nat) (q0_list : Nat) (q0_page : Nat) (q0_page_cell : Nat) (q0_page_top : Nat) (q0_single : Nat) (q0_single_grid : Nat) (q0_single_grid_cell : Nat) (q0_single_grid_top : Nat) (q0_single_code : Nat) (q0_single_way : Nat) (q0_parts : Nat) (q0_parts_counts : Nat) (q0_parts_counts_cell : Nat) (q0_parts_counts_top : Nat) (q0_parts_numbers : Nat) (q0_parts_numbers_items : Nat) (k0_first_row : Nat → Int32) (k0_page_cell : Nat → Int64) (k0_single_grid_cell : Nat → Int64) (k0_single_grid_top : Nat → Int32) (k0_single_code : Nat → Int32) (k0_single_way : Nat → Int32) (k0_single_made : Int32) (k0_parts_counts_cell : Nat → Int64) (k0_parts_numbers_items : Nat → Int32) (k0_parts_numbers_size : Int32) (k0_parts_known : Int32) (p1 : Int32) (res : Int32 × (Nat → Int32) × (Nat → Int64) × (Nat → Int32) × (Nat → Int32) × (Nat → Int32) × Int32 × (Nat → Int64) × (Nat → Int32) × Int32 × Int32) (hf : fX5_part k0_first_row k0_page_cell k0_single_grid_cell k0_single_grid_top k0_single_code k0_single_way k0_single_made k0_parts_counts_cell k0_parts_numbers_items k0_parts_numbers_size k0_parts_known p1 = some res) : Ct l yX5_part wsX5_part rmX5_part G [.ref q0, .int p1] (wdX5_part G q0 q0_first q0_first_row q0_second q0_third q0_list q0_page q0_page_cell q0_page_top q0_single q0_single_grid q0_single_grid_cell q0_single_grid_top q0_single_code q0_single_way q0_parts q0_parts_counts q0_parts_counts_cell q0_parts_counts_top q0_parts_numbers q0_parts_numbers_items k0_first_row k0_page_cell k0_single_grid_cell k0_single_grid_top k0_single_code k0_single_way k0_single_made k0_parts_counts_cell k0_parts_numbers_items k0_parts_numbers_size k0_parts_known) (wdX5_part G q0 q0_first q0_first_row q0_second q0_third q0_list q0_page q0_page_cell q0_page_top q0_single q0_single_grid q0_single_grid_cell q0_single_grid_top q0_single_code q0_single_way q0_parts q0_parts_counts q0_parts_counts_cell q0_parts_counts_top q0_parts_numbers q0_parts_numbers_items res.2.1 k0_page_cell res.2.2.1 res.2.2.2.1 res.2.2.2.2.1 res.2.2.2.2.2.1 res.2.2.2.2.2.2.1 res.2.2.2.2.2.2.2.1 res.2.2.2.2.2.2.2.2.1 res.2.2.2.2.2.2.2.2.2.1 res.2.2.2.2.2.2.2.2.2.2) (some (.int res.1)) := by
  refine Ct.of (cc := cX5_part) (nL := 2) (ret := (some .int)) (by decide) rfl (Nat.le_of_ble_eq_true rfl) rfl ?_
  intro p e s m below meth c A ls C hP hD hl
  obtain ⟨hx, hb, hml, hown, hts, hr, hlocks, hA, hG⟩ := id C
  have hS : va_S A s.heap s.heap [] := va_S.rf
  unfold fX5_part at hf
  refine lv_iload_n hx hb dX5_part_0 rfl (lv_at hl 1 rfl) ?_
  refine lv_iconst (v := (-1 : Int32)) hx hb dX5_part_1 (by decide) ?_
  refine lv_icmp_ge (tgt := 8) hx hb dX5_part_2 (by decide) (fun hc => ?_) (fun hc => ?_)
  · have hf := if_t hc hf
    refine lv_aload_n hx hb dX5_part_8 rfl (lv_at hl 0 rfl) ?_
    refine va_get (D := G.1) (ci := 5) (v := .ref q0_parts) (C := RX5) (T := TX5) (N := 7) hx hb hts nX5_part_X5 hown hG.1 hP 0 rfl rfl 6 (by decide) (hts _ mX5_part_0) (fun _ h9 => h9) rfl dX5_part_9 ?_
    refine lv_aload_n hx hb dX5_part_12 rfl (lv_at hl 0 rfl) ?_
    refine va_get (D := G.1) (ci := 5) (v := .ref q0_page) (C := RX5) (T := TX5) (N := 7) hx hb hts nX5_part_X5 hown hG.1 hP 0 rfl rfl 4 (by decide) (hts _ mX5_part_1) (fun _ h9 => h9) rfl dX5_part_13 ?_
    refine lv_aload_n hx hb dX5_part_16 rfl (lv_at hl 0 rfl) ?_
    refine va_get (D := G.1) (ci := 5) (v := .ref q0_single) (C := RX5) (T := TX5) (N := 7) hx hb hts nX5_part_X5 hown hG.1 hP 0 rfl rfl 5 (by decide) (hts _ mX5_part_2) (fun _ h9 => h9) rfl dX5_part_17 ?_
    refine lv_aload_n hx hb dX5_part_20 rfl (lv_at hl 0 rfl) ?_
    refine va_get (D := G.1) (ci := 5) (v := .ref q0_first) (C := RX5) (T := TX5) (N := 7) hx hb hts nX5_part_X5 hown hG.1 hP 0 rfl rfl 0 (by decide) (hts _ mX5_part_3) (fun _ h9 => h9) rfl dX5_part_21 ?_
    obtain ⟨r1, hr1, hf⟩ := bd_use hf
    refine cl_V (wn := (wdX5_part G q0 q0_first q0_first_row q0_second q0_third q0_list q0_page q0_page_cell q0_page_top q0_single q0_single_grid q0_single_grid_cell q0_single_grid_top q0_single_code q0_single_way q0_parts q0_parts_counts q0_parts_counts_cell q0_parts_counts_top q0_parts_numbers q0_parts_numbers_items r1.2.2.2.2.2.2.2.2.2 k0_page_cell r1.2.2.2.2.1 r1.2.2.2.2.2.1 r1.2.2.2.2.2.2.1 r1.2.2.2.2.2.2.2.1 r1.2.2.2.2.2.2.2.2.1 r1.1 r1.2.1 r1.2.2.1 r1.2.2.2.1)) (st1 := []) C hP hD hS (tX3_find l G q0_parts q0_parts_counts q0_parts_counts_cell q0_parts_counts_top q0_parts_numbers q0_parts_numbers_items q0_page q0_page_cell q0_page_top q0_single q0_single_grid q0_single_grid_cell q0_single_grid_top q0_single_code q0_single_way q0_first q0_first_row k0_parts_counts_cell k0_parts_numbers_items k0_parts_numbers_size k0_parts_known k0_page_cell k0_single_grid_cell k0_single_grid_top k0_single_code k0_single_way k0_single_made k0_first_row r1 hr1) (cwV 3 hts gX5_part_X3_find rfl rfl rfl (by decide +kernel) ⟨Nat.le_of_ble_eq_true rfl, Nat.le_of_ble_eq_true rfl⟩) [11, 12, 13, 14, 15, 3, 4, 5, 6, 7, 8, 9, 10, 1, 2] [0] [0, 14, 15, 6, 7, 8, 9, 10, 11, 12, 13, 1, 2, 3, 4, 5] rfl rfl rfl rfl (by decide) rfl rfl (ci := 3) (q0 := 11) rfl rfl rfl rfl hl.1 rfl rfl (Nat.le_of_ble_eq_true rfl) dX5_part_24 (fun H locs hP hD hS => ?_)
    refine lv_aload_n hx hb dX5_part_27 rfl (lv_at hl 0 rfl) ?_
    refine va_get (D := G.1) (ci := 5) (v := .ref q0_parts) (C := RX5) (T := TX5) (N := 7) hx hb hts nX5_part_X5 hown hG.1 hP 0 rfl rfl 6 (by decide) (hts _ mX5_part_0) (fun _ h9 => h9) rfl dX5_part_28 ?_
    refine va_get (D := G.1) (ci := 3) (v := .ref q0_parts_numbers) (C := RX3) (T := TX3) (N := 3) hx hb hts nX5_part_X3 hown hG.1 hP 11 rfl rfl 1 (by decide) (hts _ mX5_part_4) (fun _ h9 => h9) rfl dX5_part_31 ?_
    refine lv_iload_n hx hb dX5_part_34 rfl (lv_at hl 1 rfl) ?_
    obtain ⟨r2, hr2, hf⟩ := bd_use hf
    refine cl_V (wn := (wdX5_part G q0 q0_first q0_first_row q0_second q0_third q0_list q0_page q0_page_cell q0_page_top q0_single q0_single_grid q0_single_grid_cell q0_single_grid_top q0_single_code q0_single_way q0_parts q0_parts_counts q0_parts_counts_cell q0_parts_counts_top q0_parts_numbers q0_parts_numbers_items r1.2.2.2.2.2.2.2.2.2 k0_page_cell r1.2.2.2.2.1 r1.2.2.2.2.2.1 r1.2.2.2.2.2.2.1 r1.2.2.2.2.2.2.2.1 r1.2.2.2.2.2.2.2.2.1 r1.1 r1.2.1 r1.2.2.1 r1.2.2.2.1)) (st1 := [.int r2]) C hP hD hS (tX0_answer l G 3024 q0_parts_numbers q0_parts_numbers_items r1.2.1 r1.2.2.1 p1 r2 hr2) (cwV 1 hts gX5_part_X0_answer rfl rfl rfl (by decide +kernel) ⟨Nat.le_of_ble_eq_true rfl, Nat.le_of_ble_eq_true rfl⟩) [14, 15] [0, 1, 2, 3, 4, 5, 6, 7, 8, 9, 10, 11, 12, 13] [0, 1, 2, 3, 4, 5, 6, 7, 8, 9, 10, 11, 12, 13, 14, 15] rfl rfl rfl rfl (by decide) rfl rfl (ci := 0) (q0 := 14) rfl rfl rfl rfl hl.1 rfl rfl (Nat.le_of_ble_eq_true rfl) dX5_part_35 (fun H locs hP hD hS => ?_)
    cases hf
    exact rt_i C hP hD hS dX5_part_38
  · have hf := if_f hc hf
    refine lv_bipush (v := (-2 : Int32)) hx hb dX5_part_5 (by decide) ?_
    cases hf
    exact rt_i C hP hD hS dX5_part_7
abbrev wdX5_times (G : GX) (q0 : Nat) (q0_first : Nat) (q0_first_row : Nat) (q0_second : Nat) (q0_third : Nat) (q0_list : Nat) (q0_page : Nat) (q0_page_cell : Nat) (q0_page_top : Nat) (q0_single : Nat) (q0_single_grid : Nat) (q0_single_grid_cell : Nat) (q0_single_grid_top : Nat) (q0_single_code : Nat) (q0_single_way : Nat) (q0_parts : Nat) (q0_parts_counts : Nat) (q0_parts_counts_cell : Nat) (q0_parts_counts_top : Nat) (q0_parts_numbers : Nat) (q0_parts_numbers_items : Nat) (k0_first_row : Nat → Int32) (k0_page_cell : Nat → Int64) (k0_single_grid_cell : Nat → Int64) (k0_single_grid_top : Nat → Int32) (k0_single_code : Nat → Int32) (k0_single_way : Nat → Int32) (k0_single_made : Int32) (k0_parts_counts_cell : Nat → Int64) (k0_parts_numbers_items : Nat → Int32) (k0_parts_numbers_size : Int32) (k0_parts_known : Int32) : va_W := [(q0, .inr (5, [.ref q0_first, .ref q0_second, .ref q0_third, .ref q0_list, .ref q0_page, .ref q0_single, .ref q0_parts])), (q0_first, .inr (1, [.ref q0_first_row])), (q0_first_row, .inl (G.2.1, 10, .inl k0_first_row)), (q0_page, .inr (2, [.ref q0_page_cell, .ref q0_page_top])), (q0_page_cell, .inl (G.2.2.1, 3024, .inr (.inl k0_page_cell))), (q0_single, .inr (4, [.ref q0_single_grid, .ref q0_single_code, .ref q0_single_way, .int k0_single_made])), (q0_single_grid, .inr (2, [.ref q0_single_grid_cell, .ref q0_single_grid_top])), (q0_single_grid_cell, .inl (G.2.2.1, 3024, .inr (.inl k0_single_grid_cell))), (q0_single_grid_top, .inl (G.2.1, 5, .inl k0_single_grid_top)), (q0_single_code, .inl (G.2.1, 5, .inl k0_single_code)), (q0_single_way, .inl (G.2.1, 6, .inl k0_single_way)), (q0_parts, .inr (3, [.ref q0_parts_counts, .ref q0_parts_numbers, .int k0_parts_known])), (q0_parts_counts, .inr (2, [.ref q0_parts_counts_cell, .ref q0_parts_counts_top])), (q0_parts_counts_cell, .inl (G.2.2.1, 3024, .inr (.inl k0_parts_counts_cell))), (q0_parts_numbers, .inr (0, [.ref q0_parts_numbers_items, .int k0_parts_numbers_size])), (q0_parts_numbers_items, .inl (G.2.1, 3024, .inl k0_parts_numbers_items))]
abbrev rmX5_times : Room := { frames := 6, cells := 0, slots := 0, locals := 189 }
abbrev glX5_times (p : Program) (l : Launch) (e : Env) (s : State) (m : MethodId) (args : Array Value) (below : List Frame) (meth : Method) (c : Code) (G : GX) (A : Nat → Prop) (q0 : Nat) (q0_first : Nat) (q0_first_row : Nat) (q0_second : Nat) (q0_third : Nat) (q0_list : Nat) (q0_page : Nat) (q0_page_cell : Nat) (q0_page_top : Nat) (q0_single : Nat) (q0_single_grid : Nat) (q0_single_grid_cell : Nat) (q0_single_grid_top : Nat) (q0_single_code : Nat) (q0_single_way : Nat) (q0_parts : Nat) (q0_parts_counts : Nat) (q0_parts_counts_cell : Nat) (q0_parts_counts_top : Nat) (q0_parts_numbers : Nat) (q0_parts_numbers_items : Nat) (k0_page_cell : Nat → Int64) (res : Int64 × (Nat → Int32) × (Nat → Int64) × (Nat → Int32) × (Nat → Int32) × (Nat → Int32) × Int32 × (Nat → Int64) × (Nat → Int32) × Int32 × Int32) (H : Heap) (locs : List Loc) (pc : Nat) (ls : Array Slot) (st : List Value) : Prop := W p l e rmX5_times s m args below meth c H locs 0 0 (MQ below (ctQ G A (wdX5_times G q0 q0_first q0_first_row q0_second q0_third q0_list q0_page q0_page_cell q0_page_top q0_single q0_single_grid q0_single_grid_cell q0_single_grid_top q0_single_code q0_single_way q0_parts q0_parts_counts q0_parts_counts_cell q0_parts_counts_top q0_parts_numbers q0_parts_numbers_items res.2.1 k0_page_cell res.2.2.1 res.2.2.2.1 res.2.2.2.2.1 res.2.2.2.2.2.1 res.2.2.2.2.2.2.1 res.2.2.2.2.2.2.2.1 res.2.2.2.2.2.2.2.2.1 res.2.2.2.2.2.2.2.2.2.1 res.2.2.2.2.2.2.2.2.2.2) (some (.long res.1))) args s 0 0 A) (F0 m pc ls st)
set_option maxRecDepth 20000 in
theorem mX5_times_0 : Cond.fieldLink RX5 50 "SchubertDesk" "parts" "LSchubertDesk$Parts;" ∈ wsX5_times := by decide +kernel
set_option maxRecDepth 20000 in
theorem mX5_times_1 : Cond.fieldLink RX5 36 "SchubertDesk" "page" "LSchubertDesk$Grid;" ∈ wsX5_times := by decide +kernel
set_option maxRecDepth 20000 in
theorem mX5_times_2 : Cond.fieldLink RX5 43 "SchubertDesk" "single" "LSchubertDesk$Single;" ∈ wsX5_times := by decide +kernel
set_option maxRecDepth 20000 in
theorem mX5_times_3 : Cond.fieldLink RX5 12 "SchubertDesk" "first" "LSchubertDesk$Digits;" ∈ wsX5_times := by decide +kernel
set_option maxRecDepth 20000 in
theorem mX5_times_4 : Cond.fieldLink RX5 177 "SchubertDesk$Parts" "counts" "LSchubertDesk$Grid;" ∈ wsX5_times := by decide +kernel
set_option maxRecDepth 20000 in
theorem mX5_times_5 : Cond.constantLong RX5 122 (-9223372036854775808) ∈ wsX5_times := by decide +kernel
set_option maxRecDepth 20000 in
theorem nX5_times_X5 : ∀ w ∈ u_ws RX5 TX5 7, w ∈ wsX5_times := by decide +kernel
set_option maxRecDepth 20000 in
theorem nX5_times_X3 : ∀ w ∈ u_ws RX3 TX3 3, w ∈ wsX5_times := by decide +kernel
set_option maxHeartbeats 4000000 in
set_option maxRecDepth 100000 in
theorem tX5_times (l : Launch) (G : GX) (q0 : Nat) (q0_first : Nat) (q0_first_row : Nat) (q0_second : Nat) (q0_third : Nat) (q0_list : Nat) (q0_page : Nat) (q0_page_cell : Nat) (q0_page_top : Nat) (q0_single : Nat) (q0_single_grid : Nat) (q0_single_grid_cell : Nat) (q0_single_grid_top : Nat) (q0_single_code : Nat) (q0_single_way : Nat) (q0_parts : Nat) (q0_parts_counts : Nat) (q0_parts_counts_cell : Nat) (q0_parts_counts_top : Nat) (q0_parts_numbers : Nat) (q0_parts_numbers_items : Nat) (k0_first_row : Nat → Int32) (k0_page_cell : Nat → Int64) (k0_single_grid_cell : Nat → Int64) (k0_single_grid_top : Nat → Int32) (k0_single_code : Nat → Int32) (k0_single_way : Nat → Int32) (k0_single_made : Int32) (k0_parts_counts_cell : Nat → Int64) (k0_parts_numbers_items : Nat → Int32) (k0_parts_numbers_size : Int32) (k0_parts_known : Int32) (p1 : Int32) (res : Int64 × (Nat → Int32) × (Nat → Int64) × (Nat → Int32) × (Nat → Int32) × (Nat → Int32) × Int32 × (Nat → Int64) × (Nat → Int32) × Int32 × Int32) (hf : fX5_times k0_first_row k0_page_cell k0_single_grid_cell k0_single_grid_top k0_single_code k0_single_way k0_single_made k0_parts_counts_cell k0_parts_numbers_items k0_parts_numbers_size k0_parts_known p1 = some res) : Ct l yX5_times wsX5_times rmX5_times G [.ref q0, .int p1] (wdX5_times G q0 q0_first q0_first_row q0_second q0_third q0_list q0_page q0_page_cell q0_page_top q0_single q0_single_grid q0_single_grid_cell q0_single_grid_top q0_single_code q0_single_way q0_parts q0_parts_counts q0_parts_counts_cell q0_parts_counts_top q0_parts_numbers q0_parts_numbers_items k0_first_row k0_page_cell k0_single_grid_cell k0_single_grid_top k0_single_code k0_single_way k0_single_made k0_parts_counts_cell k0_parts_numbers_items k0_parts_numbers_size k0_parts_known) (wdX5_times G q0 q0_first q0_first_row q0_second q0_third q0_list q0_page q0_page_cell q0_page_top q0_single q0_single_grid q0_single_grid_cell q0_single_grid_top q0_single_code q0_single_way q0_parts q0_parts_counts q0_parts_counts_cell q0_parts_counts_top q0_parts_numbers q0_parts_numbers_items res.2.1 k0_page_cell res.2.2.1 res.2.2.2.1 res.2.2.2.2.1 res.2.2.2.2.2.1 res.2.2.2.2.2.2.1 res.2.2.2.2.2.2.2.1 res.2.2.2.2.2.2.2.2.1 res.2.2.2.2.2.2.2.2.2.1 res.2.2.2.2.2.2.2.2.2.2) (some (.long res.1)) := by
  refine Ct.of (cc := cX5_times) (nL := 3) (ret := (some .long)) (by decide) rfl (Nat.le_of_ble_eq_true rfl) rfl ?_
  intro p e s m below meth c A ls C hP hD hl
  obtain ⟨hx, hb, hml, hown, hts, hr, hlocks, hA, hG⟩ := id C
  have hS : va_S A s.heap s.heap [] := va_S.rf
  unfold fX5_times at hf
  refine lv_aload_n hx hb dX5_times_0 rfl (lv_at hl 0 rfl) ?_
  refine lv_iload_n hx hb dX5_times_1 rfl (lv_at hl 1 rfl) ?_
  obtain ⟨r1, hr1, hf⟩ := bd_use hf
  refine cl_V (wn := (wdX5_times G q0 q0_first q0_first_row q0_second q0_third q0_list q0_page q0_page_cell q0_page_top q0_single q0_single_grid q0_single_grid_cell q0_single_grid_top q0_single_code q0_single_way q0_parts q0_parts_counts q0_parts_counts_cell q0_parts_counts_top q0_parts_numbers q0_parts_numbers_items r1.2 k0_page_cell k0_single_grid_cell k0_single_grid_top k0_single_code k0_single_way k0_single_made k0_parts_counts_cell k0_parts_numbers_items k0_parts_numbers_size k0_parts_known)) (st1 := [.int r1.1]) C hP hD hS (tX5_fitCell l G q0 q0_first q0_first_row q0_second q0_third q0_list q0_page q0_single q0_parts k0_first_row p1 r1 hr1) (cwV 1 hts gX5_times_X5_fitCell rfl rfl rfl (by decide +kernel) ⟨Nat.le_of_ble_eq_true rfl, Nat.le_of_ble_eq_true rfl⟩) [0, 1, 2] [3, 4, 5, 6, 7, 8, 9, 10, 11, 12, 13, 14, 15] [13, 14, 15, 0, 1, 2, 3, 4, 5, 6, 7, 8, 9, 10, 11, 12] rfl rfl rfl rfl (by decide) rfl rfl (ci := 5) (q0 := 0) rfl rfl rfl rfl hl.1 rfl rfl (Nat.le_of_ble_eq_true rfl) dX5_times_2 (fun H locs hP hD hS => ?_)
  refine lv_istore_n (lv' := [(2, .int r1.1), (0, .ref q0), (1, .int p1)]) hx hb dX5_times_5 rfl hl (by decide) rfl (fun ls hl => ?_)
  refine lv_iload_n hx hb dX5_times_6 rfl (lv_at hl 0 rfl) ?_
  refine lv_if_ge (tgt := 14) hx hb dX5_times_7 (by decide) (fun hc => ?_) (fun hc => ?_)
  · have hf := if_t hc hf
    refine lv_aload_n hx hb dX5_times_14 rfl (lv_at hl 1 rfl) ?_
    refine va_get (D := G.1) (ci := 5) (v := .ref q0_parts) (C := RX5) (T := TX5) (N := 7) hx hb hts nX5_times_X5 hown hG.1 hP 0 rfl rfl 6 (by decide) (hts _ mX5_times_0) (fun _ h9 => h9) rfl dX5_times_15 ?_
    refine lv_aload_n hx hb dX5_times_18 rfl (lv_at hl 1 rfl) ?_
    refine va_get (D := G.1) (ci := 5) (v := .ref q0_page) (C := RX5) (T := TX5) (N := 7) hx hb hts nX5_times_X5 hown hG.1 hP 0 rfl rfl 4 (by decide) (hts _ mX5_times_1) (fun _ h9 => h9) rfl dX5_times_19 ?_
    refine lv_aload_n hx hb dX5_times_22 rfl (lv_at hl 1 rfl) ?_
    refine va_get (D := G.1) (ci := 5) (v := .ref q0_single) (C := RX5) (T := TX5) (N := 7) hx hb hts nX5_times_X5 hown hG.1 hP 0 rfl rfl 5 (by decide) (hts _ mX5_times_2) (fun _ h9 => h9) rfl dX5_times_23 ?_
    refine lv_aload_n hx hb dX5_times_26 rfl (lv_at hl 1 rfl) ?_
    refine va_get (D := G.1) (ci := 5) (v := .ref q0_first) (C := RX5) (T := TX5) (N := 7) hx hb hts nX5_times_X5 hown hG.1 hP 0 rfl rfl 0 (by decide) (hts _ mX5_times_3) (fun _ h9 => h9) rfl dX5_times_27 ?_
    obtain ⟨r2, hr2, hf⟩ := bd_use hf
    refine cl_V (wn := (wdX5_times G q0 q0_first q0_first_row q0_second q0_third q0_list q0_page q0_page_cell q0_page_top q0_single q0_single_grid q0_single_grid_cell q0_single_grid_top q0_single_code q0_single_way q0_parts q0_parts_counts q0_parts_counts_cell q0_parts_counts_top q0_parts_numbers q0_parts_numbers_items r2.2.2.2.2.2.2.2.2.2 k0_page_cell r2.2.2.2.2.1 r2.2.2.2.2.2.1 r2.2.2.2.2.2.2.1 r2.2.2.2.2.2.2.2.1 r2.2.2.2.2.2.2.2.2.1 r2.1 r2.2.1 r2.2.2.1 r2.2.2.2.1)) (st1 := []) C hP hD hS (tX3_find l G q0_parts q0_parts_counts q0_parts_counts_cell q0_parts_counts_top q0_parts_numbers q0_parts_numbers_items q0_page q0_page_cell q0_page_top q0_single q0_single_grid q0_single_grid_cell q0_single_grid_top q0_single_code q0_single_way q0_first q0_first_row k0_parts_counts_cell k0_parts_numbers_items k0_parts_numbers_size k0_parts_known k0_page_cell k0_single_grid_cell k0_single_grid_top k0_single_code k0_single_way k0_single_made r1.2 r2 hr2) (cwV 3 hts gX5_times_X3_find rfl rfl rfl (by decide +kernel) ⟨Nat.le_of_ble_eq_true rfl, Nat.le_of_ble_eq_true rfl⟩) [11, 12, 13, 14, 15, 3, 4, 5, 6, 7, 8, 9, 10, 1, 2] [0] [0, 14, 15, 6, 7, 8, 9, 10, 11, 12, 13, 1, 2, 3, 4, 5] rfl rfl rfl rfl (by decide) rfl rfl (ci := 3) (q0 := 11) rfl rfl rfl rfl hl.1 rfl rfl (Nat.le_of_ble_eq_true rfl) dX5_times_30 (fun H locs hP hD hS => ?_)
    refine lv_aload_n hx hb dX5_times_33 rfl (lv_at hl 1 rfl) ?_
    refine va_get (D := G.1) (ci := 5) (v := .ref q0_parts) (C := RX5) (T := TX5) (N := 7) hx hb hts nX5_times_X5 hown hG.1 hP 0 rfl rfl 6 (by decide) (hts _ mX5_times_0) (fun _ h9 => h9) rfl dX5_times_34 ?_
    refine va_get (D := G.1) (ci := 3) (v := .ref q0_parts_counts) (C := RX3) (T := TX3) (N := 3) hx hb hts nX5_times_X3 hown hG.1 hP 11 rfl rfl 0 (by decide) (hts _ mX5_times_4) (fun _ h9 => h9) rfl dX5_times_37 ?_
    refine lv_iload_n hx hb dX5_times_40 rfl (lv_at hl 0 rfl) ?_
    obtain ⟨r3, hr3, hf⟩ := bd_use hf
    refine cl_V (wn := (wdX5_times G q0 q0_first q0_first_row q0_second q0_third q0_list q0_page q0_page_cell q0_page_top q0_single q0_single_grid q0_single_grid_cell q0_single_grid_top q0_single_code q0_single_way q0_parts q0_parts_counts q0_parts_counts_cell q0_parts_counts_top q0_parts_numbers q0_parts_numbers_items r2.2.2.2.2.2.2.2.2.2 k0_page_cell r2.2.2.2.2.1 r2.2.2.2.2.2.1 r2.2.2.2.2.2.2.1 r2.2.2.2.2.2.2.2.1 r2.2.2.2.2.2.2.2.2.1 r2.1 r2.2.1 r2.2.2.1 r2.2.2.2.1)) (st1 := [.long r3]) C hP hD hS (tX2_at l G q0_parts_counts q0_parts_counts_cell q0_parts_counts_top r2.1 r1.1 r3 hr3) (cwV 1 hts gX5_times_X2_at rfl rfl rfl (by decide +kernel) ⟨Nat.le_of_ble_eq_true rfl, Nat.le_of_ble_eq_true rfl⟩) [12, 13] [0, 1, 2, 3, 4, 5, 6, 7, 8, 9, 10, 11, 14, 15] [0, 1, 2, 3, 4, 5, 6, 7, 8, 9, 10, 11, 14, 15, 12, 13] rfl rfl rfl rfl (by decide) rfl rfl (ci := 2) (q0 := 12) rfl rfl rfl rfl hl.1 rfl rfl (Nat.le_of_ble_eq_true rfl) dX5_times_41 (fun H locs hP hD hS => ?_)
    cases hf
    exact rt_l C hP hD hS dX5_times_44
  · have hf := if_f hc hf
    refine lv_ldc2 (v := (-9223372036854775808 : Int64)) hx hb hown (hts _ mX5_times_5) dX5_times_10 ?_
    cases hf
    exact rt_l C hP hD hS dX5_times_13
abbrev wdX5_isCrossSet (G : GX) : va_W := []
abbrev rmX5_isCrossSet : Room := { frames := 0, cells := 0, slots := 0, locals := 0 }
abbrev glX5_isCrossSet (p : Program) (l : Launch) (e : Env) (s : State) (m : MethodId) (args : Array Value) (below : List Frame) (meth : Method) (c : Code) (G : GX) (A : Nat → Prop) (res : Int32) (H : Heap) (locs : List Loc) (pc : Nat) (ls : Array Slot) (st : List Value) : Prop := W p l e rmX5_isCrossSet s m args below meth c H locs 0 0 (MQ below (ctQ G A (wdX5_isCrossSet G) (some (.int res))) args s 0 0 A) (F0 m pc ls st)
set_option maxHeartbeats 4000000 in
set_option maxRecDepth 100000 in
theorem tX5_isCrossSet (l : Launch) (G : GX) (p0 : Int32) (res : Int32) (hf : fX5_isCrossSet p0 = some res) : Ct l yX5_isCrossSet wsX5_isCrossSet rmX5_isCrossSet G [.int p0] (wdX5_isCrossSet G) (wdX5_isCrossSet G) (some (.int res)) := by
  refine Ct.of (cc := cX5_isCrossSet) (nL := 1) (ret := (some .boolean)) (by decide) rfl (Nat.le_of_ble_eq_true rfl) rfl ?_
  intro p e s m below meth c A ls C hP hD hl
  obtain ⟨hx, hb, hml, hown, hts, hr, hlocks, hA, hG⟩ := id C
  have hS : va_S A s.heap s.heap [] := va_S.rf
  unfold fX5_isCrossSet at hf
  refine lv_iload_n hx hb dX5_isCrossSet_0 rfl (lv_at hl 0 rfl) ?_
  refine lv_if_lt (tgt := 15) hx hb dX5_isCrossSet_1 (by decide) (fun hc => ?_) (fun hc => ?_)
  · have hf := if_t hc hf
    refine lv_iconst (v := (0 : Int32)) hx hb dX5_isCrossSet_15 (by decide) ?_
    cases hf
    exact rt_z C (Or.inl rfl) hP hD hS dX5_isCrossSet_16
  · have hf := if_f hc hf
    refine lv_iload_n hx hb dX5_isCrossSet_4 rfl (lv_at hl 0 rfl) ?_
    refine lv_sipush (v := (1024 : Int32)) hx hb dX5_isCrossSet_5 (by decide) ?_
    refine lv_icmp_ge (tgt := 15) hx hb dX5_isCrossSet_8 (by decide) (fun hc => ?_) (fun hc => ?_)
    · have hf := if_t hc hf
      refine lv_iconst (v := (0 : Int32)) hx hb dX5_isCrossSet_15 (by decide) ?_
      cases hf
      exact rt_z C (Or.inl rfl) hP hD hS dX5_isCrossSet_16
    · have hf := if_f hc hf
      refine lv_iconst (v := (1 : Int32)) hx hb dX5_isCrossSet_11 (by decide) ?_
      refine lv_goto (tgt := 16) hx hb dX5_isCrossSet_12 (by decide) ?_
      cases hf
      exact rt_z C (Or.inr rfl) hP hD hS dX5_isCrossSet_16
abbrev wdJ6_bitCount_0f7a4 (G : GX) : va_W := []
abbrev rmJ6_bitCount_0f7a4 : Room := { frames := 0, cells := 0, slots := 0, locals := 0 }
abbrev glJ6_bitCount_0f7a4 (p : Program) (l : Launch) (e : Env) (s : State) (m : MethodId) (args : Array Value) (below : List Frame) (meth : Method) (c : Code) (G : GX) (A : Nat → Prop) (res : Int32) (H : Heap) (locs : List Loc) (pc : Nat) (ls : Array Slot) (st : List Value) : Prop := W p l e rmJ6_bitCount_0f7a4 s m args below meth c H locs 0 0 (MQ below (ctQ G A (wdJ6_bitCount_0f7a4 G) (some (.int res))) args s 0 0 A) (F0 m pc ls st)
set_option maxRecDepth 20000 in
theorem mJ6_bitCount_0f7a4_0 : Cond.constant RJ6 265 (1431655765) ∈ wsJ6_bitCount_0f7a4 := by decide +kernel
set_option maxRecDepth 20000 in
theorem mJ6_bitCount_0f7a4_1 : Cond.constant RJ6 266 (858993459) ∈ wsJ6_bitCount_0f7a4 := by decide +kernel
set_option maxRecDepth 20000 in
theorem mJ6_bitCount_0f7a4_2 : Cond.constant RJ6 267 (252645135) ∈ wsJ6_bitCount_0f7a4 := by decide +kernel
set_option maxHeartbeats 4000000 in
set_option maxRecDepth 100000 in
theorem tJ6_bitCount_0f7a4 (l : Launch) (G : GX) (p0 : Int32) (res : Int32) (hf : fJ6_bitCount_0f7a4 p0 = some res) : Ct l yJ6_bitCount_0f7a4 wsJ6_bitCount_0f7a4 rmJ6_bitCount_0f7a4 G [.int p0] (wdJ6_bitCount_0f7a4 G) (wdJ6_bitCount_0f7a4 G) (some (.int res)) := by
  refine Ct.of (cc := cJ6_bitCount_0f7a4) (nL := 1) (ret := (some .int)) (by decide) rfl (Nat.le_of_ble_eq_true rfl) rfl ?_
  intro p e s m below meth c A ls C hP hD hl
  obtain ⟨hx, hb, hml, hown, hts, hr, hlocks, hA, hG⟩ := id C
  have hS : va_S A s.heap s.heap [] := va_S.rf
  unfold fJ6_bitCount_0f7a4 at hf
  refine lv_iload_n hx hb dJ6_bitCount_0f7a4_0 rfl (lv_at hl 0 rfl) ?_
  refine lv_iload_n hx hb dJ6_bitCount_0f7a4_1 rfl (lv_at hl 0 rfl) ?_
  refine lv_iconst (v := (1 : Int32)) hx hb dJ6_bitCount_0f7a4_2 (by decide) ?_
  refine lv_iushr hx hb dJ6_bitCount_0f7a4_3 rfl ?_
  refine lv_ldcw (v := (1431655765 : Int32)) hx hb hown (hts _ mJ6_bitCount_0f7a4_0) dJ6_bitCount_0f7a4_4 ?_
  refine lv_iand hx hb dJ6_bitCount_0f7a4_7 ?_
  refine lv_isub hx hb dJ6_bitCount_0f7a4_8 ?_
  refine lv_topi (fun y1 ey1 => ?_)
  have hf := nm_use ey1 hf
  refine lv_istore_n (lv' := [(0, .int y1)]) hx hb dJ6_bitCount_0f7a4_9 rfl hl (by decide) rfl (fun ls hl => ?_)
  refine lv_iload_n hx hb dJ6_bitCount_0f7a4_10 rfl (lv_at hl 0 rfl) ?_
  refine lv_ldcw (v := (858993459 : Int32)) hx hb hown (hts _ mJ6_bitCount_0f7a4_1) dJ6_bitCount_0f7a4_11 ?_
  refine lv_iand hx hb dJ6_bitCount_0f7a4_14 ?_
  refine lv_iload_n hx hb dJ6_bitCount_0f7a4_15 rfl (lv_at hl 0 rfl) ?_
  refine lv_iconst (v := (2 : Int32)) hx hb dJ6_bitCount_0f7a4_16 (by decide) ?_
  refine lv_iushr hx hb dJ6_bitCount_0f7a4_17 rfl ?_
  refine lv_ldcw (v := (858993459 : Int32)) hx hb hown (hts _ mJ6_bitCount_0f7a4_1) dJ6_bitCount_0f7a4_18 ?_
  refine lv_iand hx hb dJ6_bitCount_0f7a4_21 ?_
  refine lv_iadd hx hb dJ6_bitCount_0f7a4_22 ?_
  refine lv_topi (fun y2 ey2 => ?_)
  have hf := nm_use ey2 hf
  refine lv_istore_n (lv' := [(0, .int y2)]) hx hb dJ6_bitCount_0f7a4_23 rfl hl (by decide) rfl (fun ls hl => ?_)
  refine lv_iload_n hx hb dJ6_bitCount_0f7a4_24 rfl (lv_at hl 0 rfl) ?_
  refine lv_iload_n hx hb dJ6_bitCount_0f7a4_25 rfl (lv_at hl 0 rfl) ?_
  refine lv_iconst (v := (4 : Int32)) hx hb dJ6_bitCount_0f7a4_26 (by decide) ?_
  refine lv_iushr hx hb dJ6_bitCount_0f7a4_27 rfl ?_
  refine lv_iadd hx hb dJ6_bitCount_0f7a4_28 ?_
  refine lv_ldcw (v := (252645135 : Int32)) hx hb hown (hts _ mJ6_bitCount_0f7a4_2) dJ6_bitCount_0f7a4_29 ?_
  refine lv_iand hx hb dJ6_bitCount_0f7a4_32 ?_
  refine lv_topi (fun y3 ey3 => ?_)
  have hf := nm_use ey3 hf
  refine lv_istore_n (lv' := [(0, .int y3)]) hx hb dJ6_bitCount_0f7a4_33 rfl hl (by decide) rfl (fun ls hl => ?_)
  refine lv_iload_n hx hb dJ6_bitCount_0f7a4_34 rfl (lv_at hl 0 rfl) ?_
  refine lv_iload_n hx hb dJ6_bitCount_0f7a4_35 rfl (lv_at hl 0 rfl) ?_
  refine lv_bipush (v := (8 : Int32)) hx hb dJ6_bitCount_0f7a4_36 (by decide) ?_
  refine lv_iushr hx hb dJ6_bitCount_0f7a4_38 rfl ?_
  refine lv_iadd hx hb dJ6_bitCount_0f7a4_39 ?_
  refine lv_topi (fun y4 ey4 => ?_)
  have hf := nm_use ey4 hf
  refine lv_istore_n (lv' := [(0, .int y4)]) hx hb dJ6_bitCount_0f7a4_40 rfl hl (by decide) rfl (fun ls hl => ?_)
  refine lv_iload_n hx hb dJ6_bitCount_0f7a4_41 rfl (lv_at hl 0 rfl) ?_
  refine lv_iload_n hx hb dJ6_bitCount_0f7a4_42 rfl (lv_at hl 0 rfl) ?_
  refine lv_bipush (v := (16 : Int32)) hx hb dJ6_bitCount_0f7a4_43 (by decide) ?_
  refine lv_iushr hx hb dJ6_bitCount_0f7a4_45 rfl ?_
  refine lv_iadd hx hb dJ6_bitCount_0f7a4_46 ?_
  refine lv_topi (fun y5 ey5 => ?_)
  have hf := nm_use ey5 hf
  refine lv_istore_n (lv' := [(0, .int y5)]) hx hb dJ6_bitCount_0f7a4_47 rfl hl (by decide) rfl (fun ls hl => ?_)
  refine lv_iload_n hx hb dJ6_bitCount_0f7a4_48 rfl (lv_at hl 0 rfl) ?_
  refine lv_bipush (v := (63 : Int32)) hx hb dJ6_bitCount_0f7a4_49 (by decide) ?_
  refine lv_iand hx hb dJ6_bitCount_0f7a4_51 ?_
  cases hf
  exact rt_i C hP hD hS dJ6_bitCount_0f7a4_52
abbrev wdX5_makes (G : GX) (q0 : Nat) (q0_first : Nat) (q0_first_row : Nat) (q0_second : Nat) (q0_third : Nat) (q0_list : Nat) (q0_page : Nat) (q0_single : Nat) (q0_parts : Nat) (k0_first_row : Nat → Int32) : va_W := [(q0, .inr (5, [.ref q0_first, .ref q0_second, .ref q0_third, .ref q0_list, .ref q0_page, .ref q0_single, .ref q0_parts])), (q0_first, .inr (1, [.ref q0_first_row])), (q0_first_row, .inl (G.2.1, 10, .inl k0_first_row))]
abbrev rmX5_makes : Room := { frames := 3, cells := 0, slots := 0, locals := 67 }
abbrev glX5_makes (p : Program) (l : Launch) (e : Env) (s : State) (m : MethodId) (args : Array Value) (below : List Frame) (meth : Method) (c : Code) (G : GX) (A : Nat → Prop) (q0 : Nat) (q0_first : Nat) (q0_first_row : Nat) (q0_second : Nat) (q0_third : Nat) (q0_list : Nat) (q0_page : Nat) (q0_single : Nat) (q0_parts : Nat) (res : Int32 × (Nat → Int32)) (H : Heap) (locs : List Loc) (pc : Nat) (ls : Array Slot) (st : List Value) : Prop := W p l e rmX5_makes s m args below meth c H locs 0 0 (MQ below (ctQ G A (wdX5_makes G q0 q0_first q0_first_row q0_second q0_third q0_list q0_page q0_single q0_parts res.2) (some (.int res.1))) args s 0 0 A) (F0 m pc ls st)
set_option maxRecDepth 20000 in
theorem mX5_makes_0 : Cond.fieldLink RX5 12 "SchubertDesk" "first" "LSchubertDesk$Digits;" ∈ wsX5_makes := by decide +kernel
set_option maxRecDepth 20000 in
theorem nX5_makes_X5 : ∀ w ∈ u_ws RX5 TX5 7, w ∈ wsX5_makes := by decide +kernel
set_option maxHeartbeats 4000000 in
set_option maxRecDepth 100000 in
theorem tX5_makes (l : Launch) (G : GX) (q0 : Nat) (q0_first : Nat) (q0_first_row : Nat) (q0_second : Nat) (q0_third : Nat) (q0_list : Nat) (q0_page : Nat) (q0_single : Nat) (q0_parts : Nat) (k0_first_row : Nat → Int32) (p1 : Int32) (res : Int32 × (Nat → Int32)) (hf : fX5_makes k0_first_row p1 = some res) : Ct l yX5_makes wsX5_makes rmX5_makes G [.ref q0, .int p1] (wdX5_makes G q0 q0_first q0_first_row q0_second q0_third q0_list q0_page q0_single q0_parts k0_first_row) (wdX5_makes G q0 q0_first q0_first_row q0_second q0_third q0_list q0_page q0_single q0_parts res.2) (some (.int res.1)) := by
  refine Ct.of (cc := cX5_makes) (nL := 2) (ret := (some .int)) (by decide) rfl (Nat.le_of_ble_eq_true rfl) rfl ?_
  intro p e s m below meth c A ls C hP hD hl
  obtain ⟨hx, hb, hml, hown, hts, hr, hlocks, hA, hG⟩ := id C
  have hS : va_S A s.heap s.heap [] := va_S.rf
  unfold fX5_makes at hf
  refine lv_iload_n hx hb dX5_makes_0 rfl (lv_at hl 1 rfl) ?_
  obtain ⟨r1, hr1, hf⟩ := bd_use hf
  refine cl_S (wn := (wdX5_makes G q0 q0_first q0_first_row q0_second q0_third q0_list q0_page q0_single q0_parts k0_first_row)) (st1 := [.int r1]) C hP hD hS (tX5_isCrossSet l G p1 r1 hr1) (va_cwS 1 hts gX5_makes_X5_isCrossSet rfl rfl rfl (by decide +kernel) ⟨Nat.le_of_ble_eq_true rfl, Nat.le_of_ble_eq_true rfl⟩) [] [0, 1, 2] [0, 1, 2] rfl rfl rfl rfl (by decide) rfl rfl rfl hl.1 rfl rfl (Nat.le_of_ble_eq_true rfl) dX5_makes_1 (fun H locs hP hD hS => ?_)
  refine lv_if_ne (tgt := 10) hx hb dX5_makes_4 (by decide) (fun hc => ?_) (fun hc => ?_)
  · have hf := if_f hc hf
    refine lv_aload_n hx hb dX5_makes_10 rfl (lv_at hl 0 rfl) ?_
    refine va_get (D := G.1) (ci := 5) (v := .ref q0_first) (C := RX5) (T := TX5) (N := 7) hx hb hts nX5_makes_X5 hown hG.1 hP 0 rfl rfl 0 (by decide) (hts _ mX5_makes_0) (fun _ h9 => h9) rfl dX5_makes_11 ?_
    refine lv_iload_n hx hb dX5_makes_14 rfl (lv_at hl 1 rfl) ?_
    obtain ⟨r2, hr2, hf⟩ := bd_use hf
    refine cl_V (wn := (wdX5_makes G q0 q0_first q0_first_row q0_second q0_third q0_list q0_page q0_single q0_parts r2)) (st1 := []) C hP hD hS (tX1_becomeMade l G q0_first q0_first_row k0_first_row p1 r2 hr2) (cwV 1 hts gX5_makes_X1_becomeMade rfl rfl rfl (by decide +kernel) ⟨Nat.le_of_ble_eq_true rfl, Nat.le_of_ble_eq_true rfl⟩) [1, 2] [0] [0, 1, 2] rfl rfl rfl rfl (by decide) rfl rfl (ci := 1) (q0 := 1) rfl rfl rfl rfl hl.1 rfl rfl (Nat.le_of_ble_eq_true rfl) dX5_makes_15 (fun H locs hP hD hS => ?_)
    refine lv_aload_n hx hb dX5_makes_18 rfl (lv_at hl 0 rfl) ?_
    refine va_get (D := G.1) (ci := 5) (v := .ref q0_first) (C := RX5) (T := TX5) (N := 7) hx hb hts nX5_makes_X5 hown hG.1 hP 0 rfl rfl 0 (by decide) (hts _ mX5_makes_0) (fun _ h9 => h9) rfl dX5_makes_19 ?_
    obtain ⟨r3, hr3, hf⟩ := bd_use hf
    refine cl_V (wn := (wdX5_makes G q0 q0_first q0_first_row q0_second q0_third q0_list q0_page q0_single q0_parts r2)) (st1 := [.int r3]) C hP hD hS (tX1_inversions l G q0_first q0_first_row r2 r3 hr3) (cwV 0 hts gX5_makes_X1_inversions rfl rfl rfl (by decide +kernel) ⟨Nat.le_of_ble_eq_true rfl, Nat.le_of_ble_eq_true rfl⟩) [1, 2] [0] [0, 1, 2] rfl rfl rfl rfl (by decide) rfl rfl (ci := 1) (q0 := 1) rfl rfl rfl rfl hl.1 rfl rfl (Nat.le_of_ble_eq_true rfl) dX5_makes_22 (fun H locs hP hD hS => ?_)
    refine lv_iload_n hx hb dX5_makes_25 rfl (lv_at hl 1 rfl) ?_
    obtain ⟨r4, hr4, hf⟩ := bd_use hf
    refine cl_S (wn := (wdX5_makes G q0 q0_first q0_first_row q0_second q0_third q0_list q0_page q0_single q0_parts r2)) (st1 := [.int r4, .int r3]) C hP hD hS (tJ6_bitCount_0f7a4 l G p1 r4 hr4) (va_cwS 1 hts gX5_makes_J6_bitCount_0f7a4 rfl rfl rfl (by decide +kernel) ⟨Nat.le_of_ble_eq_true rfl, Nat.le_of_ble_eq_true rfl⟩) [] [0, 1, 2] [0, 1, 2] rfl rfl rfl rfl (by decide) rfl rfl rfl hl.1 rfl rfl (Nat.le_of_ble_eq_true rfl) dX5_makes_26 (fun H locs hP hD hS => ?_)
    refine lv_icmp_ne (tgt := 42) hx hb dX5_makes_29 (by decide) (fun hc => ?_) (fun hc => ?_)
    · have hf := if_f hc hf
      refine lv_bipush (v := (-9 : Int32)) hx hb dX5_makes_42 (by decide) ?_
      cases hf
      exact rt_i C hP hD hS dX5_makes_44
    · have hf := if_t hc hf
      refine lv_aload_n hx hb dX5_makes_32 rfl (lv_at hl 0 rfl) ?_
      refine va_get (D := G.1) (ci := 5) (v := .ref q0_first) (C := RX5) (T := TX5) (N := 7) hx hb hts nX5_makes_X5 hown hG.1 hP 0 rfl rfl 0 (by decide) (hts _ mX5_makes_0) (fun _ h9 => h9) rfl dX5_makes_33 ?_
      obtain ⟨r5, hr5, hf⟩ := bd_use hf
      refine cl_V (wn := (wdX5_makes G q0 q0_first q0_first_row q0_second q0_third q0_list q0_page q0_single q0_parts r2)) (st1 := [.int r5]) C hP hD hS (tX1_plainNumber l G q0_first q0_first_row r2 r5 hr5) (cwV 0 hts gX5_makes_X1_plainNumber rfl rfl rfl (by decide +kernel) ⟨Nat.le_of_ble_eq_true rfl, Nat.le_of_ble_eq_true rfl⟩) [1, 2] [0] [0, 1, 2] rfl rfl rfl rfl (by decide) rfl rfl (ci := 1) (q0 := 1) rfl rfl rfl rfl hl.1 rfl rfl (Nat.le_of_ble_eq_true rfl) dX5_makes_36 (fun H locs hP hD hS => ?_)
      refine lv_goto (tgt := 44) hx hb dX5_makes_39 (by decide) ?_
      cases hf
      exact rt_i C hP hD hS dX5_makes_44
  · have hf := if_t hc hf
    refine lv_bipush (v := (-2 : Int32)) hx hb dX5_makes_7 (by decide) ?_
    cases hf
    exact rt_i C hP hD hS dX5_makes_9
abbrev wdX5_isMadeBy (G : GX) (q0 : Nat) (q0_first : Nat) (q0_second : Nat) (q0_second_row : Nat) (q0_third : Nat) (q0_list : Nat) (q0_page : Nat) (q0_single : Nat) (q0_parts : Nat) (q1 : Nat) (q1_row : Nat) (k0_second_row : Nat → Int32) (k1_row : Nat → Int32) : va_W := [(q0, .inr (5, [.ref q0_first, .ref q0_second, .ref q0_third, .ref q0_list, .ref q0_page, .ref q0_single, .ref q0_parts])), (q0_second, .inr (1, [.ref q0_second_row])), (q0_second_row, .inl (G.2.1, 10, .inl k0_second_row)), (q1, .inr (1, [.ref q1_row])), (q1_row, .inl (G.2.1, 10, .inl k1_row))]
abbrev rmX5_isMadeBy : Room := { frames := 3, cells := 0, slots := 0, locals := 67 }
abbrev glX5_isMadeBy (p : Program) (l : Launch) (e : Env) (s : State) (m : MethodId) (args : Array Value) (below : List Frame) (meth : Method) (c : Code) (G : GX) (A : Nat → Prop) (q0 : Nat) (q0_first : Nat) (q0_second : Nat) (q0_second_row : Nat) (q0_third : Nat) (q0_list : Nat) (q0_page : Nat) (q0_single : Nat) (q0_parts : Nat) (q1 : Nat) (q1_row : Nat) (k1_row : Nat → Int32) (res : Int32 × (Nat → Int32)) (H : Heap) (locs : List Loc) (pc : Nat) (ls : Array Slot) (st : List Value) : Prop := W p l e rmX5_isMadeBy s m args below meth c H locs 0 0 (MQ below (ctQ G A (wdX5_isMadeBy G q0 q0_first q0_second q0_second_row q0_third q0_list q0_page q0_single q0_parts q1 q1_row res.2 k1_row) (some (.int res.1))) args s 0 0 A) (F0 m pc ls st)
set_option maxRecDepth 20000 in
theorem mX5_isMadeBy_0 : Cond.fieldLink RX5 18 "SchubertDesk" "second" "LSchubertDesk$Digits;" ∈ wsX5_isMadeBy := by decide +kernel
set_option maxRecDepth 20000 in
theorem nX5_isMadeBy_X5 : ∀ w ∈ u_ws RX5 TX5 7, w ∈ wsX5_isMadeBy := by decide +kernel
set_option maxHeartbeats 4000000 in
set_option maxRecDepth 100000 in
theorem tX5_isMadeBy (l : Launch) (G : GX) (q0 : Nat) (q0_first : Nat) (q0_second : Nat) (q0_second_row : Nat) (q0_third : Nat) (q0_list : Nat) (q0_page : Nat) (q0_single : Nat) (q0_parts : Nat) (q1 : Nat) (q1_row : Nat) (k0_second_row : Nat → Int32) (k1_row : Nat → Int32) (p2 : Int32) (res : Int32 × (Nat → Int32)) (hf : fX5_isMadeBy k0_second_row k1_row p2 = some res) : Ct l yX5_isMadeBy wsX5_isMadeBy rmX5_isMadeBy G [.ref q0, .ref q1, .int p2] (wdX5_isMadeBy G q0 q0_first q0_second q0_second_row q0_third q0_list q0_page q0_single q0_parts q1 q1_row k0_second_row k1_row) (wdX5_isMadeBy G q0 q0_first q0_second q0_second_row q0_third q0_list q0_page q0_single q0_parts q1 q1_row res.2 k1_row) (some (.int res.1)) := by
  refine Ct.of (cc := cX5_isMadeBy) (nL := 3) (ret := (some .boolean)) (by decide) rfl (Nat.le_of_ble_eq_true rfl) rfl ?_
  intro p e s m below meth c A ls C hP hD hl
  obtain ⟨hx, hb, hml, hown, hts, hr, hlocks, hA, hG⟩ := id C
  have hS : va_S A s.heap s.heap [] := va_S.rf
  unfold fX5_isMadeBy at hf
  refine lv_aload_n hx hb dX5_isMadeBy_0 rfl (lv_at hl 0 rfl) ?_
  refine va_get (D := G.1) (ci := 5) (v := .ref q0_second) (C := RX5) (T := TX5) (N := 7) hx hb hts nX5_isMadeBy_X5 hown hG.1 hP 0 rfl rfl 1 (by decide) (hts _ mX5_isMadeBy_0) (fun _ h9 => h9) rfl dX5_isMadeBy_1 ?_
  refine lv_iload_n hx hb dX5_isMadeBy_4 rfl (lv_at hl 2 rfl) ?_
  obtain ⟨r1, hr1, hf⟩ := bd_use hf
  refine cl_V (wn := (wdX5_isMadeBy G q0 q0_first q0_second q0_second_row q0_third q0_list q0_page q0_single q0_parts q1 q1_row r1 k1_row)) (st1 := []) C hP hD hS (tX1_becomeMade l G q0_second q0_second_row k0_second_row p2 r1 hr1) (cwV 1 hts gX5_isMadeBy_X1_becomeMade rfl rfl rfl (by decide +kernel) ⟨Nat.le_of_ble_eq_true rfl, Nat.le_of_ble_eq_true rfl⟩) [1, 2] [0, 3, 4] [0, 3, 4, 1, 2] rfl rfl rfl rfl (by decide) rfl rfl (ci := 1) (q0 := 1) rfl rfl rfl rfl hl.1 rfl rfl (Nat.le_of_ble_eq_true rfl) dX5_isMadeBy_5 (fun H locs hP hD hS => ?_)
  refine lv_aload_n hx hb dX5_isMadeBy_8 rfl (lv_at hl 0 rfl) ?_
  refine va_get (D := G.1) (ci := 5) (v := .ref q0_second) (C := RX5) (T := TX5) (N := 7) hx hb hts nX5_isMadeBy_X5 hown hG.1 hP 0 rfl rfl 1 (by decide) (hts _ mX5_isMadeBy_0) (fun _ h9 => h9) rfl dX5_isMadeBy_9 ?_
  refine lv_aload_n hx hb dX5_isMadeBy_12 rfl (lv_at hl 1 rfl) ?_
  obtain ⟨r2, hr2, hf⟩ := bd_use hf
  refine cl_V (wn := (wdX5_isMadeBy G q0 q0_first q0_second q0_second_row q0_third q0_list q0_page q0_single q0_parts q1 q1_row r1 k1_row)) (st1 := [.int r2]) C hP hD hS (tX1_isSame l G q0_second q0_second_row q1 q1_row r1 k1_row r2 hr2) (cwV 1 hts gX5_isMadeBy_X1_isSame rfl rfl rfl (by decide +kernel) ⟨Nat.le_of_ble_eq_true rfl, Nat.le_of_ble_eq_true rfl⟩) [1, 2, 3, 4] [0] [0, 1, 2, 3, 4] rfl rfl rfl rfl (by decide) rfl rfl (ci := 1) (q0 := 1) rfl rfl rfl rfl hl.1 rfl rfl (Nat.le_of_ble_eq_true rfl) dX5_isMadeBy_13 (fun H locs hP hD hS => ?_)
  obtain ⟨hz, hf⟩ := bz_use hf
  cases hf
  exact rt_z C hz hP hD hS dX5_isMadeBy_16
abbrev wdX5_dream (G : GX) (q0 : Nat) (q0_first : Nat) (q0_first_row : Nat) (q0_second : Nat) (q0_second_row : Nat) (q0_third : Nat) (q0_list : Nat) (q0_page : Nat) (q0_single : Nat) (q0_parts : Nat) (k0_first_row : Nat → Int32) (k0_second_row : Nat → Int32) : va_W := [(q0, .inr (5, [.ref q0_first, .ref q0_second, .ref q0_third, .ref q0_list, .ref q0_page, .ref q0_single, .ref q0_parts])), (q0_first, .inr (1, [.ref q0_first_row])), (q0_first_row, .inl (G.2.1, 10, .inl k0_first_row)), (q0_second, .inr (1, [.ref q0_second_row])), (q0_second_row, .inl (G.2.1, 10, .inl k0_second_row))]
abbrev rmX5_dream : Room := { frames := 4, cells := 0, slots := 0, locals := 89 }
abbrev glX5_dream (p : Program) (l : Launch) (e : Env) (s : State) (m : MethodId) (args : Array Value) (below : List Frame) (meth : Method) (c : Code) (G : GX) (A : Nat → Prop) (q0 : Nat) (q0_first : Nat) (q0_first_row : Nat) (q0_second : Nat) (q0_second_row : Nat) (q0_third : Nat) (q0_list : Nat) (q0_page : Nat) (q0_single : Nat) (q0_parts : Nat) (res : Int32 × (Nat → Int32) × (Nat → Int32)) (H : Heap) (locs : List Loc) (pc : Nat) (ls : Array Slot) (st : List Value) : Prop := W p l e rmX5_dream s m args below meth c H locs 0 0 (MQ below (ctQ G A (wdX5_dream G q0 q0_first q0_first_row q0_second q0_second_row q0_third q0_list q0_page q0_single q0_parts res.2.1 res.2.2) (some (.int res.1))) args s 0 0 A) (F0 m pc ls st)
set_option maxRecDepth 20000 in
theorem mX5_dream_0 : Cond.fieldLink RX5 12 "SchubertDesk" "first" "LSchubertDesk$Digits;" ∈ wsX5_dream := by decide +kernel
set_option maxRecDepth 20000 in
theorem nX5_dream_X5 : ∀ w ∈ u_ws RX5 TX5 7, w ∈ wsX5_dream := by decide +kernel
set_option maxHeartbeats 4000000 in
set_option maxRecDepth 100000 in
theorem wX5_dream_46 {p : Program} {l : Launch} {e : Env} {s : State} {m : MethodId} {args : Array Value} {below : List Frame} {meth : Method} {c : Code} {G : GX} {A : Nat → Prop} (C : Cx p s m args meth c cX5_dream 6 (some .int) wsX5_dream RX5 G A) (q0 : Nat) (q0_first : Nat) (q0_first_row : Nat) (q0_second : Nat) (q0_second_row : Nat) (q0_third : Nat) (q0_list : Nat) (q0_page : Nat) (q0_single : Nat) (q0_parts : Nat) (p1 : Int32) (p2 : Int32) (res : Int32 × (Nat → Int32) × (Nat → Int32)) (n : Nat) : ∀ (k0_first_row : Nat → Int32) (k0_second_row : Nat → Int32) (x3 : Int32) (x4 : Int32) (x5 : Int32) (H : Heap) (locs : List Loc) (ls : Array Slot), fX5_dream_L46 p1 p2 n k0_first_row k0_second_row x3 x4 x5 = some res → va_P G.1 vwCl (wdX5_dream G q0 q0_first q0_first_row q0_second q0_second_row q0_third q0_list q0_page q0_single q0_parts k0_first_row k0_second_row) H → va_D A (wdX5_dream G q0 q0_first q0_first_row q0_second q0_second_row q0_third q0_list q0_page q0_single q0_parts k0_first_row k0_second_row) → va_S A s.heap H locs → lv_has ls 6 [(0, .ref q0), (2, .int p2), (3, .int x3), (4, .int x4), (5, .int x5)] → glX5_dream p l e s m args below meth c G A q0 q0_first q0_first_row q0_second q0_second_row q0_third q0_list q0_page q0_single q0_parts res H locs 46 ls [] := by
  obtain ⟨hx, hb, hml, hown, hts, hr, hlocks, hA, hG⟩ := id C
  induction n with
  | zero => intro k0_first_row k0_second_row x3 x4 x5 H locs ls hf hP hD hS hl; cases hf
  | succ n ih =>
    intro k0_first_row k0_second_row x3 x4 x5 H locs ls hf hP hD hS hl
    simp only [fX5_dream_L46] at hf
    refine lv_iload hx hb dX5_dream_46 (lv_at hl 4 rfl) ?_
    refine lv_sipush (v := (1024 : Int32)) hx hb dX5_dream_48 (by decide) ?_
    refine lv_icmp_ge (tgt := 94) hx hb dX5_dream_51 (by decide) (fun hc => ?_) (fun hc => ?_)
    · have hf := if_t hc hf
      refine lv_iload_n hx hb dX5_dream_94 rfl (lv_at hl 1 rfl) ?_
      refine lv_iconst (v := (-1 : Int32)) hx hb dX5_dream_95 (by decide) ?_
      refine lv_icmp_ne (tgt := 104) hx hb dX5_dream_96 (by decide) (fun hc => ?_) (fun hc => ?_)
      · have hf := if_f hc hf
        refine lv_bipush (v := (-9 : Int32)) hx hb dX5_dream_104 (by decide) ?_
        cases hf
        exact rt_i C hP hD hS dX5_dream_106
      · have hf := if_t hc hf
        refine lv_iload hx hb dX5_dream_99 (lv_at hl 3 rfl) ?_
        refine lv_goto (tgt := 106) hx hb dX5_dream_101 (by decide) ?_
        cases hf
        exact rt_i C hP hD hS dX5_dream_106
    · have hf := if_f hc hf
      refine lv_iload hx hb dX5_dream_54 (lv_at hl 4 rfl) ?_
      obtain ⟨r1, hr1, hf⟩ := bd_use hf
      refine cl_S (wn := (wdX5_dream G q0 q0_first q0_first_row q0_second q0_second_row q0_third q0_list q0_page q0_single q0_parts k0_first_row k0_second_row)) (st1 := [.int r1]) C hP hD hS (tJ6_bitCount_0f7a4 l G x5 r1 hr1) (va_cwS 1 hts gX5_dream_J6_bitCount_0f7a4 rfl rfl rfl (by decide +kernel) ⟨Nat.le_of_ble_eq_true rfl, Nat.le_of_ble_eq_true rfl⟩) [] [0, 1, 2, 3, 4] [0, 1, 2, 3, 4] rfl rfl rfl rfl (by decide) rfl rfl rfl hl.1 rfl rfl (Nat.le_of_ble_eq_true rfl) dX5_dream_56 (fun H locs hP hD hS => ?_)
      refine lv_iload_n hx hb dX5_dream_59 rfl (lv_at hl 2 rfl) ?_
      refine lv_icmp_ne (tgt := 88) hx hb dX5_dream_60 (by decide) (fun hc => ?_) (fun hc => ?_)
      · have hf := if_f hc hf
        obtain ⟨y2, ey2⟩ : ∃ z : Int32, z = x5 + (1 : Int32) := ⟨_, rfl⟩
        have hf := nm_use ey2 hf
        refine lv_iinc (v := y2) (lv' := [(5, .int y2), (0, .ref q0), (2, .int p2), (3, .int x3), (4, .int x4)]) hx hb dX5_dream_88 hl (k := 4) rfl (by rw [ey2]; rfl) (by decide) rfl (fun ls hl => ?_)
        refine lv_goto (tgt := 46) hx hb dX5_dream_91 (by decide) ?_
        exact ih k0_first_row k0_second_row x3 x4 y2 _ _ ls hf hP hD hS (lv_sub hl [1, 2, 3, 4, 0] rfl)
      · have hf := if_t hc hf
        refine lv_aload_n hx hb dX5_dream_63 rfl (lv_at hl 0 rfl) ?_
        refine lv_aload_n hx hb dX5_dream_64 rfl (lv_at hl 0 rfl) ?_
        refine va_get (D := G.1) (ci := 5) (v := .ref q0_first) (C := RX5) (T := TX5) (N := 7) hx hb hts nX5_dream_X5 hown hG.1 hP 0 rfl rfl 0 (by decide) (hts _ mX5_dream_0) (fun _ h9 => h9) rfl dX5_dream_65 ?_
        refine lv_iload hx hb dX5_dream_68 (lv_at hl 4 rfl) ?_
        obtain ⟨r3, hr3, hf⟩ := bd_use hf
        refine cl_V (wn := (wdX5_dream G q0 q0_first q0_first_row q0_second q0_second_row q0_third q0_list q0_page q0_single q0_parts k0_first_row r3.2)) (st1 := [.int r3.1]) C hP hD hS (tX5_isMadeBy l G q0 q0_first q0_second q0_second_row q0_third q0_list q0_page q0_single q0_parts q0_first q0_first_row k0_second_row k0_first_row x5 r3 hr3) (cwV 2 hts gX5_dream_X5_isMadeBy rfl rfl rfl (by decide +kernel) ⟨Nat.le_of_ble_eq_true rfl, Nat.le_of_ble_eq_true rfl⟩) [0, 3, 4, 1, 2] [] [0, 3, 4, 1, 2] rfl rfl rfl rfl (by decide) rfl rfl (ci := 5) (q0 := 0) rfl rfl rfl rfl hl.1 rfl rfl (Nat.le_of_ble_eq_true rfl) dX5_dream_70 (fun H locs hP hD hS => ?_)
        refine lv_if_eq (tgt := 88) hx hb dX5_dream_73 (by decide) (fun hc => ?_) (fun hc => ?_)
        · have hf := if_t hc hf
          obtain ⟨y4, ey4⟩ : ∃ z : Int32, z = x5 + (1 : Int32) := ⟨_, rfl⟩
          have hf := nm_use ey4 hf
          refine lv_iinc (v := y4) (lv' := [(5, .int y4), (0, .ref q0), (2, .int p2), (3, .int x3), (4, .int x4)]) hx hb dX5_dream_88 hl (k := 4) rfl (by rw [ey4]; rfl) (by decide) rfl (fun ls hl => ?_)
          refine lv_goto (tgt := 46) hx hb dX5_dream_91 (by decide) ?_
          exact ih k0_first_row r3.2 x3 x4 y4 _ _ ls hf hP hD hS (lv_sub hl [1, 2, 3, 4, 0] rfl)
        · have hf := if_f hc hf
          refine lv_iload hx hb dX5_dream_76 (lv_at hl 3 rfl) ?_
          refine lv_iload_n hx hb dX5_dream_78 rfl (lv_at hl 1 rfl) ?_
          refine lv_icmp_ne (tgt := 85) hx hb dX5_dream_79 (by decide) (fun hc => ?_) (fun hc => ?_)
          · have hf := if_f hc hf
            obtain ⟨y5, ey5⟩ : ∃ z : Int32, z = x4 + (1 : Int32) := ⟨_, rfl⟩
            have hf := nm_use ey5 hf
            refine lv_iinc (v := y5) (lv' := [(4, .int y5), (0, .ref q0), (2, .int p2), (3, .int x3), (5, .int x5)]) hx hb dX5_dream_85 hl (k := 3) rfl (by rw [ey5]; rfl) (by decide) rfl (fun ls hl => ?_)
            obtain ⟨y6, ey6⟩ : ∃ z : Int32, z = x5 + (1 : Int32) := ⟨_, rfl⟩
            have hf := nm_use ey6 hf
            refine lv_iinc (v := y6) (lv' := [(5, .int y6), (4, .int y5), (0, .ref q0), (2, .int p2), (3, .int x3)]) hx hb dX5_dream_88 hl (k := 4) rfl (by rw [ey6]; rfl) (by decide) rfl (fun ls hl => ?_)
            refine lv_goto (tgt := 46) hx hb dX5_dream_91 (by decide) ?_
            exact ih k0_first_row r3.2 x3 y5 y6 _ _ ls hf hP hD hS (lv_sub hl [2, 3, 4, 1, 0] rfl)
          · have hf := if_t hc hf
            refine lv_iload hx hb dX5_dream_82 (lv_at hl 4 rfl) ?_
            cases hf
            exact rt_i C hP hD hS dX5_dream_84
set_option maxHeartbeats 4000000 in
set_option maxRecDepth 100000 in
theorem tX5_dream (l : Launch) (G : GX) (q0 : Nat) (q0_first : Nat) (q0_first_row : Nat) (q0_second : Nat) (q0_second_row : Nat) (q0_third : Nat) (q0_list : Nat) (q0_page : Nat) (q0_single : Nat) (q0_parts : Nat) (k0_first_row : Nat → Int32) (k0_second_row : Nat → Int32) (p1 : Int32) (p2 : Int32) (res : Int32 × (Nat → Int32) × (Nat → Int32)) (hf : fX5_dream k0_first_row k0_second_row p1 p2 = some res) : Ct l yX5_dream wsX5_dream rmX5_dream G [.ref q0, .int p1, .int p2] (wdX5_dream G q0 q0_first q0_first_row q0_second q0_second_row q0_third q0_list q0_page q0_single q0_parts k0_first_row k0_second_row) (wdX5_dream G q0 q0_first q0_first_row q0_second q0_second_row q0_third q0_list q0_page q0_single q0_parts res.2.1 res.2.2) (some (.int res.1)) := by
  refine Ct.of (cc := cX5_dream) (nL := 6) (ret := (some .int)) (by decide) rfl (Nat.le_of_ble_eq_true rfl) rfl ?_
  intro p e s m below meth c A ls C hP hD hl
  obtain ⟨hx, hb, hml, hown, hts, hr, hlocks, hA, hG⟩ := id C
  have hS : va_S A s.heap s.heap [] := va_S.rf
  unfold fX5_dream at hf
  refine lv_aload_n hx hb dX5_dream_0 rfl (lv_at hl 0 rfl) ?_
  refine va_get (D := G.1) (ci := 5) (v := .ref q0_first) (C := RX5) (T := TX5) (N := 7) hx hb hts nX5_dream_X5 hown hG.1 hP 0 rfl rfl 0 (by decide) (hts _ mX5_dream_0) (fun _ h9 => h9) rfl dX5_dream_1 ?_
  refine lv_iload_n hx hb dX5_dream_4 rfl (lv_at hl 1 rfl) ?_
  obtain ⟨r7, hr7, hf⟩ := bd_use hf
  refine cl_V (wn := (wdX5_dream G q0 q0_first q0_first_row q0_second q0_second_row q0_third q0_list q0_page q0_single q0_parts r7.2 k0_second_row)) (st1 := [.int r7.1]) C hP hD hS (tX1_read l G q0_first q0_first_row k0_first_row p1 r7 hr7) (cwV 1 hts gX5_dream_X1_read rfl rfl rfl (by decide +kernel) ⟨Nat.le_of_ble_eq_true rfl, Nat.le_of_ble_eq_true rfl⟩) [1, 2] [0, 3, 4] [0, 3, 4, 1, 2] rfl rfl rfl rfl (by decide) rfl rfl (ci := 1) (q0 := 1) rfl rfl rfl rfl hl.1 rfl rfl (Nat.le_of_ble_eq_true rfl) dX5_dream_5 (fun H locs hP hD hS => ?_)
  refine lv_if_eq (tgt := 16) hx hb dX5_dream_8 (by decide) (fun hc => ?_) (fun hc => ?_)
  · have hf := if_t hc hf
    refine lv_bipush (v := (-2 : Int32)) hx hb dX5_dream_16 (by decide) ?_
    cases hf
    exact rt_i C hP hD hS dX5_dream_18
  · have hf := if_f hc hf
    refine lv_iload_n hx hb dX5_dream_11 rfl (lv_at hl 2 rfl) ?_
    refine lv_iconst (v := (-1 : Int32)) hx hb dX5_dream_12 (by decide) ?_
    refine lv_icmp_ge (tgt := 19) hx hb dX5_dream_13 (by decide) (fun hc => ?_) (fun hc => ?_)
    · have hf := if_t hc hf
      refine lv_aload_n hx hb dX5_dream_19 rfl (lv_at hl 0 rfl) ?_
      refine va_get (D := G.1) (ci := 5) (v := .ref q0_first) (C := RX5) (T := TX5) (N := 7) hx hb hts nX5_dream_X5 hown hG.1 hP 0 rfl rfl 0 (by decide) (hts _ mX5_dream_0) (fun _ h9 => h9) rfl dX5_dream_20 ?_
      obtain ⟨r8, hr8, hf⟩ := bd_use hf
      refine cl_V (wn := (wdX5_dream G q0 q0_first q0_first_row q0_second q0_second_row q0_third q0_list q0_page q0_single q0_parts r7.2 k0_second_row)) (st1 := [.int r8]) C hP hD hS (tX1_isSmall l G q0_first q0_first_row r7.2 r8 hr8) (cwV 0 hts gX5_dream_X1_isSmall rfl rfl rfl (by decide +kernel) ⟨Nat.le_of_ble_eq_true rfl, Nat.le_of_ble_eq_true rfl⟩) [1, 2] [0, 3, 4] [0, 3, 4, 1, 2] rfl rfl rfl rfl (by decide) rfl rfl (ci := 1) (q0 := 1) rfl rfl rfl rfl hl.1 rfl rfl (Nat.le_of_ble_eq_true rfl) dX5_dream_23 (fun H locs hP hD hS => ?_)
      refine lv_if_ne (tgt := 32) hx hb dX5_dream_26 (by decide) (fun hc => ?_) (fun hc => ?_)
      · have hf := if_f hc hf
        refine lv_aload_n hx hb dX5_dream_32 rfl (lv_at hl 0 rfl) ?_
        refine va_get (D := G.1) (ci := 5) (v := .ref q0_first) (C := RX5) (T := TX5) (N := 7) hx hb hts nX5_dream_X5 hown hG.1 hP 0 rfl rfl 0 (by decide) (hts _ mX5_dream_0) (fun _ h9 => h9) rfl dX5_dream_33 ?_
        obtain ⟨r9, hr9, hf⟩ := bd_use hf
        refine cl_V (wn := (wdX5_dream G q0 q0_first q0_first_row q0_second q0_second_row q0_third q0_list q0_page q0_single q0_parts r7.2 k0_second_row)) (st1 := [.int r9]) C hP hD hS (tX1_inversions l G q0_first q0_first_row r7.2 r9 hr9) (cwV 0 hts gX5_dream_X1_inversions rfl rfl rfl (by decide +kernel) ⟨Nat.le_of_ble_eq_true rfl, Nat.le_of_ble_eq_true rfl⟩) [1, 2] [0, 3, 4] [0, 3, 4, 1, 2] rfl rfl rfl rfl (by decide) rfl rfl (ci := 1) (q0 := 1) rfl rfl rfl rfl hl.1 rfl rfl (Nat.le_of_ble_eq_true rfl) dX5_dream_36 (fun H locs hP hD hS => ?_)
        refine lv_istore_n (lv' := [(3, .int r9), (0, .ref q0), (1, .int p1), (2, .int p2)]) hx hb dX5_dream_39 rfl hl (by decide) rfl (fun ls hl => ?_)
        refine lv_iconst (v := (0 : Int32)) hx hb dX5_dream_40 (by decide) ?_
        refine lv_istore (lv' := [(4, .int (0 : Int32)), (3, .int r9), (0, .ref q0), (1, .int p1), (2, .int p2)]) hx hb dX5_dream_41 hl (by decide) rfl (fun ls hl => ?_)
        refine lv_iconst (v := (0 : Int32)) hx hb dX5_dream_43 (by decide) ?_
        refine lv_istore (lv' := [(5, .int (0 : Int32)), (4, .int (0 : Int32)), (3, .int r9), (0, .ref q0), (1, .int p1), (2, .int p2)]) hx hb dX5_dream_44 hl (by decide) rfl (fun ls hl => ?_)
        exact wX5_dream_46 C q0 q0_first q0_first_row q0_second q0_second_row q0_third q0_list q0_page q0_single q0_parts p1 p2 res fu r7.2 k0_second_row r9 (0 : Int32) (0 : Int32) _ _ ls hf hP hD hS (lv_sub hl [3, 5, 2, 1, 0] rfl)
      · have hf := if_t hc hf
        refine lv_bipush (v := (-3 : Int32)) hx hb dX5_dream_29 (by decide) ?_
        cases hf
        exact rt_i C hP hD hS dX5_dream_31
    · have hf := if_f hc hf
      refine lv_bipush (v := (-2 : Int32)) hx hb dX5_dream_16 (by decide) ?_
      cases hf
      exact rt_i C hP hD hS dX5_dream_18
