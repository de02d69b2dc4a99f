abbrev wdX5_terms (G : GX) (q0 : Nat) (q0_first : Nat) (q0_first_row : Nat) (q0_second : Nat) (q0_third : Nat) (q0_list : Nat) (q0_page : Nat) (q0_single : Nat) (q0_single_grid : Nat) (q0_single_grid_cell : Nat) (q0_single_grid_top : Nat) (q0_single_code : Nat) (q0_single_way : Nat) (q0_parts : Nat) (k0_first_row : Nat → Int32) (k0_single_grid_cell : Nat → Int64) (k0_single_grid_top : Nat → Int32) (k0_single_code : Nat → Int32) (k0_single_way : Nat → Int32) (k0_single_made : Int32) : va_W := [(q0, .inr (5, [.ref q0_first, .ref q0_second, .ref q0_third, .ref q0_list, .ref q0_page, .ref q0_single, .ref q0_parts])), (q0_first, .inr (1, [.ref q0_first_row])), (q0_first_row, .inl (G.2.1, 10, .inl k0_first_row)), (q0_single, .inr (4, [.ref q0_single_grid, .ref q0_single_code, .ref q0_single_way, .int k0_single_made])), (q0_single_grid, .inr (2, [.ref q0_single_grid_cell, .ref q0_single_grid_top])), (q0_single_grid_cell, .inl (G.2.2.1, 3024, .inr (.inl k0_single_grid_cell))), (q0_single_grid_top, .inl (G.2.1, 5, .inl k0_single_grid_top)), (q0_single_code, .inl (G.2.1, 5, .inl k0_single_code)), (q0_single_way, .inl (G.2.1, 6, .inl k0_single_way))]
abbrev rmX5_terms : Room := { frames := 5, cells := 0, slots := 0, locals := 163 }
abbrev glX5_terms (p : Program) (l : Launch) (e : Env) (s : State) (m : MethodId) (args : Array Value) (below : List Frame) (meth : Method) (c : Code) (G : GX) (A : Nat → Prop) (q0 : Nat) (q0_first : Nat) (q0_first_row : Nat) (q0_second : Nat) (q0_third : Nat) (q0_list : Nat) (q0_page : Nat) (q0_single : Nat) (q0_single_grid : Nat) (q0_single_grid_cell : Nat) (q0_single_grid_top : Nat) (q0_single_code : Nat) (q0_single_way : Nat) (q0_parts : Nat) (res : Int32 × (Nat → Int32) × (Nat → Int64) × (Nat → Int32) × (Nat → Int32) × (Nat → Int32) × Int32) (H : Heap) (locs : List Loc) (pc : Nat) (ls : Array Slot) (st : List Value) : Prop := W p l e rmX5_terms s m args below meth c H locs 0 0 (MQ below (ctQ G A (wdX5_terms G q0 q0_first q0_first_row q0_second q0_third q0_list q0_page q0_single q0_single_grid q0_single_grid_cell q0_single_grid_top q0_single_code q0_single_way q0_parts res.2.1 res.2.2.1 res.2.2.2.1 res.2.2.2.2.1 res.2.2.2.2.2.1 res.2.2.2.2.2.2) (some (.int res.1))) args s 0 0 A) (F0 m pc ls st)
set_option maxRecDepth 20000 in
theorem mX5_terms_0 : Cond.fieldLink RX5 43 "SchubertDesk" "single" "LSchubertDesk$Single;" ∈ wsX5_terms := by decide +kernel
set_option maxRecDepth 20000 in
theorem mX5_terms_1 : Cond.fieldLink RX5 109 "SchubertDesk$Single" "grid" "LSchubertDesk$Grid;" ∈ wsX5_terms := by decide +kernel
set_option maxRecDepth 20000 in
theorem nX5_terms_X5 : ∀ w ∈ u_ws RX5 TX5 7, w ∈ wsX5_terms := by decide +kernel
set_option maxRecDepth 20000 in
theorem nX5_terms_X4 : ∀ w ∈ u_ws RX4 TX4 4, w ∈ wsX5_terms := by decide +kernel
set_option maxHeartbeats 4000000 in
set_option maxRecDepth 100000 in
theorem tX5_terms (l : Launch) (G : GX) (q0 : Nat) (q0_first : Nat) (q0_first_row : Nat) (q0_second : Nat) (q0_third : Nat) (q0_list : Nat) (q0_page : Nat) (q0_single : Nat) (q0_single_grid : Nat) (q0_single_grid_cell : Nat) (q0_single_grid_top : Nat) (q0_single_code : Nat) (q0_single_way : Nat) (q0_parts : Nat) (k0_first_row : Nat → Int32) (k0_single_grid_cell : Nat → Int64) (k0_single_grid_top : Nat → Int32) (k0_single_code : Nat → Int32) (k0_single_way : Nat → Int32) (k0_single_made : Int32) (p1 : Int32) (res : Int32 × (Nat → Int32) × (Nat → Int64) × (Nat → Int32) × (Nat → Int32) × (Nat → Int32) × Int32) (hf : fX5_terms k0_first_row k0_single_grid_cell k0_single_grid_top k0_single_code k0_single_way k0_single_made p1 = some res) : Ct l yX5_terms wsX5_terms rmX5_terms G [.ref q0, .int p1] (wdX5_terms G q0 q0_first q0_first_row q0_second q0_third q0_list q0_page q0_single q0_single_grid q0_single_grid_cell q0_single_grid_top q0_single_code q0_single_way q0_parts k0_first_row k0_single_grid_cell k0_single_grid_top k0_single_code k0_single_way k0_single_made) (wdX5_terms G q0 q0_first q0_first_row q0_second q0_third q0_list q0_page q0_single q0_single_grid q0_single_grid_cell q0_single_grid_top q0_single_code q0_single_way q0_parts res.2.1 res.2.2.1 res.2.2.2.1 res.2.2.2.2.1 res.2.2.2.2.2.1 res.2.2.2.2.2.2) (some (.int res.1)) := by
  refine Ct.of (cc := cX5_terms) (nL := 3) (ret := (some .int)) (by decide) rfl (Nat.le_of_ble_eq_true rfl) rfl ?_
  intro p e s m below meth c A ls C hP hD hl
  obtain ⟨hx, hb, hml, hown, hts, hr, hlocks, hA, hG⟩ := id C
  have hS : va_S A s.heap s.heap [] := va_S.rf
  unfold fX5_terms at hf
  refine lv_aload_n hx hb dX5_terms_0 rfl (lv_at hl 0 rfl) ?_
  refine lv_iload_n hx hb dX5_terms_1 rfl (lv_at hl 1 rfl) ?_
  obtain ⟨r1, hr1, hf⟩ := bd_use hf
  refine cl_V (wn := (wdX5_terms G q0 q0_first q0_first_row q0_second q0_third q0_list q0_page q0_single q0_single_grid q0_single_grid_cell q0_single_grid_top q0_single_code q0_single_way q0_parts r1.2 k0_single_grid_cell k0_single_grid_top k0_single_code k0_single_way k0_single_made)) (st1 := [.int r1.1]) C hP hD hS (tX5_fitCell l G q0 q0_first q0_first_row q0_second q0_third q0_list q0_page q0_single q0_parts k0_first_row p1 r1 hr1) (cwV 1 hts gX5_terms_X5_fitCell rfl rfl rfl (by decide +kernel) ⟨Nat.le_of_ble_eq_true rfl, Nat.le_of_ble_eq_true rfl⟩) [0, 1, 2] [3, 4, 5, 6, 7, 8] [6, 7, 8, 0, 1, 2, 3, 4, 5] rfl rfl rfl rfl (by decide) rfl rfl (ci := 5) (q0 := 0) rfl rfl rfl rfl hl.1 rfl rfl (Nat.le_of_ble_eq_true rfl) dX5_terms_2 (fun H locs hP hD hS => ?_)
  refine lv_istore_n (lv' := [(2, .int r1.1), (0, .ref q0), (1, .int p1)]) hx hb dX5_terms_5 rfl hl (by decide) rfl (fun ls hl => ?_)
  refine lv_iload_n hx hb dX5_terms_6 rfl (lv_at hl 0 rfl) ?_
  refine lv_if_ge (tgt := 12) hx hb dX5_terms_7 (by decide) (fun hc => ?_) (fun hc => ?_)
  · have hf := if_t hc hf
    refine lv_aload_n hx hb dX5_terms_12 rfl (lv_at hl 1 rfl) ?_
    refine va_get (D := G.1) (ci := 5) (v := .ref q0_single) (C := RX5) (T := TX5) (N := 7) hx hb hts nX5_terms_X5 hown hG.1 hP 0 rfl rfl 5 (by decide) (hts _ mX5_terms_0) (fun _ h9 => h9) rfl dX5_terms_13 ?_
    refine lv_iload_n hx hb dX5_terms_16 rfl (lv_at hl 0 rfl) ?_
    obtain ⟨r2, hr2, hf⟩ := bd_use hf
    refine cl_V (wn := (wdX5_terms G q0 q0_first q0_first_row q0_second q0_third q0_list q0_page q0_single q0_single_grid q0_single_grid_cell q0_single_grid_top q0_single_code q0_single_way q0_parts r1.2 r2.1 r2.2.1 r2.2.2.1 r2.2.2.2.1 r2.2.2.2.2)) (st1 := []) C hP hD hS (tX4_make l G q0_single q0_single_grid q0_single_grid_cell q0_single_grid_top q0_single_code q0_single_way k0_single_grid_cell k0_single_grid_top k0_single_code k0_single_way k0_single_made r1.1 r2 hr2) (cwV 1 hts gX5_terms_X4_make rfl rfl rfl (by decide +kernel) ⟨Nat.le_of_ble_eq_true rfl, Nat.le_of_ble_eq_true rfl⟩) [3, 4, 5, 6, 7, 8] [0, 1, 2] [0, 1, 2, 3, 4, 5, 6, 7, 8] rfl rfl rfl rfl (by decide) rfl rfl (ci := 4) (q0 := 3) rfl rfl rfl rfl hl.1 rfl rfl (Nat.le_of_ble_eq_true rfl) dX5_terms_17 (fun H locs hP hD hS => ?_)
    refine lv_aload_n hx hb dX5_terms_20 rfl (lv_at hl 1 rfl) ?_
    refine va_get (D := G.1) (ci := 5) (v := .ref q0_single) (C := RX5) (T := TX5) (N := 7) hx hb hts nX5_terms_X5 hown hG.1 hP 0 rfl rfl 5 (by decide) (hts _ mX5_terms_0) (fun _ h9 => h9) rfl dX5_terms_21 ?_
    refine va_get (D := G.1) (ci := 4) (v := .ref q0_single_grid) (C := RX4) (T := TX4) (N := 4) hx hb hts nX5_terms_X4 hown hG.1 hP 3 rfl rfl 0 (by decide) (hts _ mX5_terms_1) (fun _ h9 => h9) rfl dX5_terms_24 ?_
    obtain ⟨r3, hr3, hf⟩ := bd_use hf
    refine cl_V (wn := (wdX5_terms G q0 q0_first q0_first_row q0_second q0_third q0_list q0_page q0_single q0_single_grid q0_single_grid_cell q0_single_grid_top q0_single_code q0_single_way q0_parts r1.2 r2.1 r2.2.1 r2.2.2.1 r2.2.2.2.1 r2.2.2.2.2)) (st1 := [.int r3]) C hP hD hS (tX2_filled l G q0_single_grid q0_single_grid_cell q0_single_grid_top r2.1 r3 hr3) (cwV 0 hts gX5_terms_X2_filled rfl rfl rfl (by decide +kernel) ⟨Nat.le_of_ble_eq_true rfl, Nat.le_of_ble_eq_true rfl⟩) [4, 5] [0, 1, 2, 3, 6, 7, 8] [0, 1, 2, 3, 7, 8, 4, 5, 6] rfl rfl rfl rfl (by decide) rfl rfl (ci := 2) (q0 := 4) rfl rfl rfl rfl hl.1 rfl rfl (Nat.le_of_ble_eq_true rfl) dX5_terms_27 (fun H locs hP hD hS => ?_)
    cases hf
    exact rt_i C hP hD hS dX5_terms_30
  · have hf := if_f hc hf
    refine lv_iload_n hx hb dX5_terms_10 rfl (lv_at hl 0 rfl) ?_
    cases hf
    exact rt_i C hP hD hS dX5_terms_11
abbrev wdX5_isPoint (G : GX) : va_W := []
abbrev rmX5_isPoint : Room := { frames := 0, cells := 0, slots := 0, locals := 0 }
abbrev glX5_isPoint (p : Program) (l : Launch) (e : Env) (s : State) (m : MethodId) (args : Array Value) (below : List Frame) (meth : Method) (c : Code) (G : GX) (A : Nat → Prop) (res : Int32) (H : Heap) (locs : List Loc) (pc : Nat) (ls : Array Slot) (st : List Value) : Prop := W p l e rmX5_isPoint s m args below meth c H locs 0 0 (MQ below (ctQ G A (wdX5_isPoint G) (some (.int res))) args s 0 0 A) (F0 m pc ls st)
set_option maxHeartbeats 4000000 in
set_option maxRecDepth 100000 in
theorem tX5_isPoint (l : Launch) (G : GX) (p0 : Int32) (res : Int32) (hf : fX5_isPoint p0 = some res) : Ct l yX5_isPoint wsX5_isPoint rmX5_isPoint G [.int p0] (wdX5_isPoint G) (wdX5_isPoint G) (some (.int res)) := by
  refine Ct.of (cc := cX5_isPoint) (nL := 1) (ret := (some .boolean)) (by decide) rfl (Nat.le_of_ble_eq_true rfl) rfl ?_
  intro p e s m below meth c A ls C hP hD hl
  obtain ⟨hx, hb, hml, hown, hts, hr, hlocks, hA, hG⟩ := id C
  have hS : va_S A s.heap s.heap [] := va_S.rf
  unfold fX5_isPoint at hf
  refine lv_iload_n hx hb dX5_isPoint_0 rfl (lv_at hl 0 rfl) ?_
  refine lv_bipush (v := (-3 : Int32)) hx hb dX5_isPoint_1 (by decide) ?_
  refine lv_icmp_lt (tgt := 15) hx hb dX5_isPoint_3 (by decide) (fun hc => ?_) (fun hc => ?_)
  · have hf := if_t hc hf
    refine lv_iconst (v := (0 : Int32)) hx hb dX5_isPoint_15 (by decide) ?_
    cases hf
    exact rt_z C (Or.inl rfl) hP hD hS dX5_isPoint_16
  · have hf := if_f hc hf
    refine lv_iload_n hx hb dX5_isPoint_6 rfl (lv_at hl 0 rfl) ?_
    refine lv_iconst (v := (3 : Int32)) hx hb dX5_isPoint_7 (by decide) ?_
    refine lv_icmp_gt (tgt := 15) hx hb dX5_isPoint_8 (by decide) (fun hc => ?_) (fun hc => ?_)
    · have hf := if_t hc hf
      refine lv_iconst (v := (0 : Int32)) hx hb dX5_isPoint_15 (by decide) ?_
      cases hf
      exact rt_z C (Or.inl rfl) hP hD hS dX5_isPoint_16
    · have hf := if_f hc hf
      refine lv_iconst (v := (1 : Int32)) hx hb dX5_isPoint_11 (by decide) ?_
      refine lv_goto (tgt := 16) hx hb dX5_isPoint_12 (by decide) ?_
      cases hf
      exact rt_z C (Or.inr rfl) hP hD hS dX5_isPoint_16
abbrev wdX5_value (G : GX) (q0 : Nat) (q0_first : Nat) (q0_first_row : Nat) (q0_second : Nat) (q0_third : Nat) (q0_list : Nat) (q0_page : Nat) (q0_single : Nat) (q0_single_grid : Nat) (q0_single_grid_cell : Nat) (q0_single_grid_top : Nat) (q0_single_code : Nat) (q0_single_way : Nat) (q0_parts : Nat) (k0_first_row : Nat → Int32) (k0_single_grid_cell : Nat → Int64) (k0_single_grid_top : Nat → Int32) (k0_single_code : Nat → Int32) (k0_single_way : Nat → Int32) (k0_single_made : Int32) : va_W := [(q0, .inr (5, [.ref q0_first, .ref q0_second, .ref q0_third, .ref q0_list, .ref q0_page, .ref q0_single, .ref q0_parts])), (q0_first, .inr (1, [.ref q0_first_row])), (q0_first_row, .inl (G.2.1, 10, .inl k0_first_row)), (q0_single, .inr (4, [.ref q0_single_grid, .ref q0_single_code, .ref q0_single_way, .int k0_single_made])), (q0_single_grid, .inr (2, [.ref q0_single_grid_cell, .ref q0_single_grid_top])), (q0_single_grid_cell, .inl (G.2.2.1, 3024, .inr (.inl k0_single_grid_cell))), (q0_single_grid_top, .inl (G.2.1, 5, .inl k0_single_grid_top)), (q0_single_code, .inl (G.2.1, 5, .inl k0_single_code)), (q0_single_way, .inl (G.2.1, 6, .inl k0_single_way))]
abbrev rmX5_value : Room := { frames := 5, cells := 0, slots := 0, locals := 163 }
abbrev glX5_value (p : Program) (l : Launch) (e : Env) (s : State) (m : MethodId) (args : Array Value) (below : List Frame) (meth : Method) (c : Code) (G : GX) (A : Nat → Prop) (q0 : Nat) (q0_first : Nat) (q0_first_row : Nat) (q0_second : Nat) (q0_third : Nat) (q0_list : Nat) (q0_page : Nat) (q0_single : Nat) (q0_single_grid : Nat) (q0_single_grid_cell : Nat) (q0_single_grid_top : Nat) (q0_single_code : Nat) (q0_single_way : Nat) (q0_parts : Nat) (res : Int64 × (Nat → Int32) × (Nat → Int64) × (Nat → Int32) × (Nat → Int32) × (Nat → Int32) × Int32) (H : Heap) (locs : List Loc) (pc : Nat) (ls : Array Slot) (st : List Value) : Prop := W p l e rmX5_value s m args below meth c H locs 0 0 (MQ below (ctQ G A (wdX5_value G q0 q0_first q0_first_row q0_second q0_third q0_list q0_page q0_single q0_single_grid q0_single_grid_cell q0_single_grid_top q0_single_code q0_single_way q0_parts res.2.1 res.2.2.1 res.2.2.2.1 res.2.2.2.2.1 res.2.2.2.2.2.1 res.2.2.2.2.2.2) (some (.long res.1))) args s 0 0 A) (F0 m pc ls st)
set_option maxRecDepth 20000 in
theorem mX5_value_0 : Cond.constantLong RX5 122 (-9223372036854775808) ∈ wsX5_value := by decide +kernel
set_option maxRecDepth 20000 in
theorem mX5_value_1 : Cond.fieldLink RX5 43 "SchubertDesk" "single" "LSchubertDesk$Single;" ∈ wsX5_value := by decide +kernel
set_option maxRecDepth 20000 in
theorem mX5_value_2 : Cond.fieldLink RX5 109 "SchubertDesk$Single" "grid" "LSchubertDesk$Grid;" ∈ wsX5_value := by decide +kernel
set_option maxRecDepth 20000 in
theorem nX5_value_X5 : ∀ w ∈ u_ws RX5 TX5 7, w ∈ wsX5_value := by decide +kernel
set_option maxRecDepth 20000 in
theorem nX5_value_X4 : ∀ w ∈ u_ws RX4 TX4 4, w ∈ wsX5_value := by decide +kernel
set_option maxHeartbeats 4000000 in
set_option maxRecDepth 100000 in
theorem tX5_value (l : Launch) (G : GX) (q0 : Nat) (q0_first : Nat) (q0_first_row : Nat) (q0_second : Nat) (q0_third : Nat) (q0_list : Nat) (q0_page : Nat) (q0_single : Nat) (q0_single_grid : Nat) (q0_single_grid_cell : Nat) (q0_single_grid_top : Nat) (q0_single_code : Nat) (q0_single_way : Nat) (q0_parts : Nat) (k0_first_row : Nat → Int32) (k0_single_grid_cell : Nat → Int64) (k0_single_grid_top : Nat → Int32) (k0_single_code : Nat → Int32) (k0_single_way : Nat → Int32) (k0_single_made : Int32) (p1 : Int32) (p2 : Int32) (p3 : Int32) (p4 : Int32) (p5 : Int32) (res : Int64 × (Nat → Int32) × (Nat → Int64) × (Nat → Int32) × (Nat → Int32) × (Nat → Int32) × Int32) (hf : fX5_value k0_first_row k0_single_grid_cell k0_single_grid_top k0_single_code k0_single_way k0_single_made p1 p2 p3 p4 p5 = some res) : Ct l yX5_value wsX5_value rmX5_value G [.ref q0, .int p1, .int p2, .int p3, .int p4, .int p5] (wdX5_value G q0 q0_first q0_first_row q0_second q0_third q0_list q0_page q0_single q0_single_grid q0_single_grid_cell q0_single_grid_top q0_single_code q0_single_way q0_parts k0_first_row k0_single_grid_cell k0_single_grid_top k0_single_code k0_single_way k0_single_made) (wdX5_value G q0 q0_first q0_first_row q0_second q0_third q0_list q0_page q0_single q0_single_grid q0_single_grid_cell q0_single_grid_top q0_single_code q0_single_way q0_parts res.2.1 res.2.2.1 res.2.2.2.1 res.2.2.2.2.1 res.2.2.2.2.2.1 res.2.2.2.2.2.2) (some (.long res.1)) := by
  refine Ct.of (cc := cX5_value) (nL := 7) (ret := (some .long)) (by decide) rfl (Nat.le_of_ble_eq_true rfl) rfl ?_
  intro p e s m below meth c A ls C hP hD hl
  obtain ⟨hx, hb, hml, hown, hts, hr, hlocks, hA, hG⟩ := id C
  have hS : va_S A s.heap s.heap [] := va_S.rf
  unfold fX5_value at hf
  refine lv_aload_n hx hb dX5_value_0 rfl (lv_at hl 0 rfl) ?_
  refine lv_iload_n hx hb dX5_value_1 rfl (lv_at hl 1 rfl) ?_
  obtain ⟨r1, hr1, hf⟩ := bd_use hf
  refine cl_V (wn := (wdX5_value G q0 q0_first q0_first_row q0_second q0_third q0_list q0_page q0_single q0_single_grid q0_single_grid_cell q0_single_grid_top q0_single_code q0_single_way q0_parts r1.2 k0_single_grid_cell k0_single_grid_top k0_single_code k0_single_way k0_single_made)) (st1 := [.int r1.1]) C hP hD hS (tX5_fitCell l G q0 q0_first q0_first_row q0_second q0_third q0_list q0_page q0_single q0_parts k0_first_row p1 r1 hr1) (cwV 1 hts gX5_value_X5_fitCell rfl rfl rfl (by decide +kernel) ⟨Nat.le_of_ble_eq_true rfl, Nat.le_of_ble_eq_true rfl⟩) [0, 1, 2] [3, 4, 5, 6, 7, 8] [6, 7, 8, 0, 1, 2, 3, 4, 5] rfl rfl rfl rfl (by decide) rfl rfl (ci := 5) (q0 := 0) rfl rfl rfl rfl hl.1 rfl rfl (Nat.le_of_ble_eq_true rfl) dX5_value_2 (fun H locs hP hD hS => ?_)
  refine lv_istore (lv' := [(6, .int r1.1), (0, .ref q0), (1, .int p1), (2, .int p2), (3, .int p3), (4, .int p4), (5, .int p5)]) hx hb dX5_value_5 hl (by decide) rfl (fun ls hl => ?_)
  refine lv_iload hx hb dX5_value_7 (lv_at hl 0 rfl) ?_
  refine lv_if_lt (tgt := 42) hx hb dX5_value_9 (by decide) (fun hc => ?_) (fun hc => ?_)
  · have hf := if_t hc hf
    refine lv_ldc2 (v := (-9223372036854775808 : Int64)) hx hb hown (hts _ mX5_value_0) dX5_value_42 ?_
    cases hf
    exact rt_l C hP hD hS dX5_value_45
  · have hf := if_f hc hf
    refine lv_iload_n hx hb dX5_value_12 rfl (lv_at hl 3 rfl) ?_
    obtain ⟨r2, hr2, hf⟩ := bd_use hf
    refine cl_S (wn := (wdX5_value G q0 q0_first q0_first_row q0_second q0_third q0_list q0_page q0_single q0_single_grid q0_single_grid_cell q0_single_grid_top q0_single_code q0_single_way q0_parts r1.2 k0_single_grid_cell k0_single_grid_top k0_single_code k0_single_way k0_single_made)) (st1 := [.int r2]) C hP hD hS (tX5_isPoint l G p2 r2 hr2) (va_cwS 1 hts gX5_value_X5_isPoint rfl rfl rfl (by decide +kernel) ⟨Nat.le_of_ble_eq_true rfl, Nat.le_of_ble_eq_true rfl⟩) [] [0, 1, 2, 3, 4, 5, 6, 7, 8] [0, 1, 2, 3, 4, 5, 6, 7, 8] rfl rfl rfl rfl (by decide) rfl rfl rfl hl.1 rfl rfl (Nat.le_of_ble_eq_true rfl) dX5_value_13 (fun H locs hP hD hS => ?_)
    refine lv_if_eq (tgt := 42) hx hb dX5_value_16 (by decide) (fun hc => ?_) (fun hc => ?_)
    · have hf := if_t hc hf
      refine lv_ldc2 (v := (-9223372036854775808 : Int64)) hx hb hown (hts _ mX5_value_0) dX5_value_42 ?_
      cases hf
      exact rt_l C hP hD hS dX5_value_45
    · have hf := if_f hc hf
      refine lv_iload_n hx hb dX5_value_19 rfl (lv_at hl 4 rfl) ?_
      obtain ⟨r3, hr3, hf⟩ := bd_use hf
      refine cl_S (wn := (wdX5_value G q0 q0_first q0_first_row q0_second q0_third q0_list q0_page q0_single q0_single_grid q0_single_grid_cell q0_single_grid_top q0_single_code q0_single_way q0_parts r1.2 k0_single_grid_cell k0_single_grid_top k0_single_code k0_single_way k0_single_made)) (st1 := [.int r3]) C hP hD hS (tX5_isPoint l G p3 r3 hr3) (va_cwS 1 hts gX5_value_X5_isPoint rfl rfl rfl (by decide +kernel) ⟨Nat.le_of_ble_eq_true rfl, Nat.le_of_ble_eq_true rfl⟩) [] [0, 1, 2, 3, 4, 5, 6, 7, 8] [0, 1, 2, 3, 4, 5, 6, 7, 8] rfl rfl rfl rfl (by decide) rfl rfl rfl hl.1 rfl rfl (Nat.le_of_ble_eq_true rfl) dX5_value_20 (fun H locs hP hD hS => ?_)
      refine lv_if_eq (tgt := 42) hx hb dX5_value_23 (by decide) (fun hc => ?_) (fun hc => ?_)
      · have hf := if_t hc hf
        refine lv_ldc2 (v := (-9223372036854775808 : Int64)) hx hb hown (hts _ mX5_value_0) dX5_value_42 ?_
        cases hf
        exact rt_l C hP hD hS dX5_value_45
      · have hf := if_f hc hf
        refine lv_iload hx hb dX5_value_26 (lv_at hl 5 rfl) ?_
        obtain ⟨r4, hr4, hf⟩ := bd_use hf
        refine cl_S (wn := (wdX5_value G q0 q0_first q0_first_row q0_second q0_third q0_list q0_page q0_single q0_single_grid q0_single_grid_cell q0_single_grid_top q0_single_code q0_single_way q0_parts r1.2 k0_single_grid_cell k0_single_grid_top k0_single_code k0_single_way k0_single_made)) (st1 := [.int r4]) C hP hD hS (tX5_isPoint l G p4 r4 hr4) (va_cwS 1 hts gX5_value_X5_isPoint rfl rfl rfl (by decide +kernel) ⟨Nat.le_of_ble_eq_true rfl, Nat.le_of_ble_eq_true rfl⟩) [] [0, 1, 2, 3, 4, 5, 6, 7, 8] [0, 1, 2, 3, 4, 5, 6, 7, 8] rfl rfl rfl rfl (by decide) rfl rfl rfl hl.1 rfl rfl (Nat.le_of_ble_eq_true rfl) dX5_value_28 (fun H locs hP hD hS => ?_)
        refine lv_if_eq (tgt := 42) hx hb dX5_value_31 (by decide) (fun hc => ?_) (fun hc => ?_)
        · have hf := if_t hc hf
          refine lv_ldc2 (v := (-9223372036854775808 : Int64)) hx hb hown (hts _ mX5_value_0) dX5_value_42 ?_
          cases hf
          exact rt_l C hP hD hS dX5_value_45
        · have hf := if_f hc hf
          refine lv_iload hx hb dX5_value_34 (lv_at hl 6 rfl) ?_
          obtain ⟨r5, hr5, hf⟩ := bd_use hf
          refine cl_S (wn := (wdX5_value G q0 q0_first q0_first_row q0_second q0_third q0_list q0_page q0_single q0_single_grid q0_single_grid_cell q0_single_grid_top q0_single_code q0_single_way q0_parts r1.2 k0_single_grid_cell k0_single_grid_top k0_single_code k0_single_way k0_single_made)) (st1 := [.int r5]) C hP hD hS (tX5_isPoint l G p5 r5 hr5) (va_cwS 1 hts gX5_value_X5_isPoint rfl rfl rfl (by decide +kernel) ⟨Nat.le_of_ble_eq_true rfl, Nat.le_of_ble_eq_true rfl⟩) [] [0, 1, 2, 3, 4, 5, 6, 7, 8] [0, 1, 2, 3, 4, 5, 6, 7, 8] rfl rfl rfl rfl (by decide) rfl rfl rfl hl.1 rfl rfl (Nat.le_of_ble_eq_true rfl) dX5_value_36 (fun H locs hP hD hS => ?_)
          refine lv_if_ne (tgt := 46) hx hb dX5_value_39 (by decide) (fun hc => ?_) (fun hc => ?_)
          · have hf := if_f hc hf
            refine lv_aload_n hx hb dX5_value_46 rfl (lv_at hl 1 rfl) ?_
            refine va_get (D := G.1) (ci := 5) (v := .ref q0_single) (C := RX5) (T := TX5) (N := 7) hx hb hts nX5_value_X5 hown hG.1 hP 0 rfl rfl 5 (by decide) (hts _ mX5_value_1) (fun _ h9 => h9) rfl dX5_value_47 ?_
            refine lv_iload hx hb dX5_value_50 (lv_at hl 0 rfl) ?_
            obtain ⟨r6, hr6, hf⟩ := bd_use hf
            refine cl_V (wn := (wdX5_value G q0 q0_first q0_first_row q0_second q0_third q0_list q0_page q0_single q0_single_grid q0_single_grid_cell q0_single_grid_top q0_single_code q0_single_way q0_parts r1.2 r6.1 r6.2.1 r6.2.2.1 r6.2.2.2.1 r6.2.2.2.2)) (st1 := []) C hP hD hS (tX4_make l G q0_single q0_single_grid q0_single_grid_cell q0_single_grid_top q0_single_code q0_single_way k0_single_grid_cell k0_single_grid_top k0_single_code k0_single_way k0_single_made r1.1 r6 hr6) (cwV 1 hts gX5_value_X4_make rfl rfl rfl (by decide +kernel) ⟨Nat.le_of_ble_eq_true rfl, Nat.le_of_ble_eq_true rfl⟩) [3, 4, 5, 6, 7, 8] [0, 1, 2] [0, 1, 2, 3, 4, 5, 6, 7, 8] rfl rfl rfl rfl (by decide) rfl rfl (ci := 4) (q0 := 3) rfl rfl rfl rfl hl.1 rfl rfl (Nat.le_of_ble_eq_true rfl) dX5_value_52 (fun H locs hP hD hS => ?_)
            refine lv_aload_n hx hb dX5_value_55 rfl (lv_at hl 1 rfl) ?_
            refine va_get (D := G.1) (ci := 5) (v := .ref q0_single) (C := RX5) (T := TX5) (N := 7) hx hb hts nX5_value_X5 hown hG.1 hP 0 rfl rfl 5 (by decide) (hts _ mX5_value_1) (fun _ h9 => h9) rfl dX5_value_56 ?_
            refine va_get (D := G.1) (ci := 4) (v := .ref q0_single_grid) (C := RX4) (T := TX4) (N := 4) hx hb hts nX5_value_X4 hown hG.1 hP 3 rfl rfl 0 (by decide) (hts _ mX5_value_2) (fun _ h9 => h9) rfl dX5_value_59 ?_
            refine lv_iload_n hx hb dX5_value_62 rfl (lv_at hl 3 rfl) ?_
            refine lv_iload_n hx hb dX5_value_63 rfl (lv_at hl 4 rfl) ?_
            refine lv_iload hx hb dX5_value_64 (lv_at hl 5 rfl) ?_
            refine lv_iload hx hb dX5_value_66 (lv_at hl 6 rfl) ?_
            obtain ⟨r7, hr7, hf⟩ := bd_use hf
            refine cl_V (wn := (wdX5_value G q0 q0_first q0_first_row q0_second q0_third q0_list q0_page q0_single q0_single_grid q0_single_grid_cell q0_single_grid_top q0_single_code q0_single_way q0_parts r1.2 r6.1 r6.2.1 r6.2.2.1 r6.2.2.2.1 r6.2.2.2.2)) (st1 := [.long r7]) C hP hD hS (tX2_valueAt l G q0_single_grid q0_single_grid_cell q0_single_grid_top r6.1 p2 p3 p4 p5 r7 hr7) (cwV 4 hts gX5_value_X2_valueAt rfl rfl rfl (by decide +kernel) ⟨Nat.le_of_ble_eq_true rfl, Nat.le_of_ble_eq_true rfl⟩) [4, 5] [0, 1, 2, 3, 6, 7, 8] [0, 1, 2, 3, 7, 8, 4, 5, 6] rfl rfl rfl rfl (by decide) rfl rfl (ci := 2) (q0 := 4) rfl rfl rfl rfl hl.1 rfl rfl (Nat.le_of_ble_eq_true rfl) dX5_value_68 (fun H locs hP hD hS => ?_)
            cases hf
            exact rt_l C hP hD hS dX5_value_71
          · have hf := if_t hc hf
            refine lv_ldc2 (v := (-9223372036854775808 : Int64)) hx hb hown (hts _ mX5_value_0) dX5_value_42 ?_
            cases hf
            exact rt_l C hP hD hS dX5_value_45
abbrev wdX5_wipe (G : GX) (q0 : Nat) (q0_first : Nat) (q0_second : Nat) (q0_third : Nat) (q0_list : Nat) (q0_page : Nat) (q0_page_cell : Nat) (q0_page_top : Nat) (q0_single : Nat) (q0_parts : Nat) (q0_parts_counts : Nat) (q0_parts_numbers : Nat) (k0_page_cell : Nat → Int64) (k0_parts_known : Int32) : va_W := [(q0, .inr (5, [.ref q0_first, .ref q0_second, .ref q0_third, .ref q0_list, .ref q0_page, .ref q0_single, .ref q0_parts])), (q0_page, .inr (2, [.ref q0_page_cell, .ref q0_page_top])), (q0_page_cell, .inl (G.2.2.1, 3024, .inr (.inl k0_page_cell))), (q0_parts, .inr (3, [.ref q0_parts_counts, .ref q0_parts_numbers, .int k0_parts_known]))]
abbrev rmX5_wipe : Room := { frames := 2, cells := 0, slots := 0, locals := 44 }
abbrev glX5_wipe (p : Program) (l : Launch) (e : Env) (s : State) (m : MethodId) (args : Array Value) (below : List Frame) (meth : Method) (c : Code) (G : GX) (A : Nat → Prop) (q0 : Nat) (q0_first : Nat) (q0_second : Nat) (q0_third : Nat) (q0_list : Nat) (q0_page : Nat) (q0_page_cell : Nat) (q0_page_top : Nat) (q0_single : Nat) (q0_parts : Nat) (q0_parts_counts : Nat) (q0_parts_numbers : Nat) (res : Int32 × (Nat → Int64) × Int32) (H : Heap) (locs : List Loc) (pc : Nat) (ls : Array Slot) (st : List Value) : Prop := W p l e rmX5_wipe s m args below meth c H locs 0 0 (MQ below (ctQ G A (wdX5_wipe G q0 q0_first q0_second q0_third q0_list q0_page q0_page_cell q0_page_top q0_single q0_parts q0_parts_counts q0_parts_numbers res.2.1 res.2.2) (some (.int res.1))) args s 0 0 A) (F0 m pc ls st)
set_option maxRecDepth 20000 in
theorem mX5_wipe_0 : Cond.fieldLink RX5 36 "SchubertDesk" "page" "LSchubertDesk$Grid;" ∈ wsX5_wipe := by decide +kernel
set_option maxRecDepth 20000 in
theorem mX5_wipe_1 : Cond.fieldLink RX5 50 "SchubertDesk" "parts" "LSchubertDesk$Parts;" ∈ wsX5_wipe := by decide +kernel
set_option maxRecDepth 20000 in
theorem nX5_wipe_X5 : ∀ w ∈ u_ws RX5 TX5 7, w ∈ wsX5_wipe := by decide +kernel
set_option maxHeartbeats 4000000 in
set_option maxRecDepth 100000 in
theorem tX5_wipe (l : Launch) (G : GX) (q0 : Nat) (q0_first : Nat) (q0_second : Nat) (q0_third : Nat) (q0_list : Nat) (q0_page : Nat) (q0_page_cell : Nat) (q0_page_top : Nat) (q0_single : Nat) (q0_parts : Nat) (q0_parts_counts : Nat) (q0_parts_numbers : Nat) (k0_page_cell : Nat → Int64) (k0_parts_known : Int32) (res : Int32 × (Nat → Int64) × Int32) (hf : fX5_wipe k0_page_cell k0_parts_known = some res) : Ct l yX5_wipe wsX5_wipe rmX5_wipe G [.ref q0] (wdX5_wipe G q0 q0_first q0_second q0_third q0_list q0_page q0_page_cell q0_page_top q0_single q0_parts q0_parts_counts q0_parts_numbers k0_page_cell k0_parts_known) (wdX5_wipe G q0 q0_first q0_second q0_third q0_list q0_page q0_page_cell q0_page_top q0_single q0_parts q0_parts_counts q0_parts_numbers res.2.1 res.2.2) (some (.int res.1)) := by
  refine Ct.of (cc := cX5_wipe) (nL := 2) (ret := (some .int)) (by decide) rfl (Nat.le_of_ble_eq_true rfl) rfl ?_
  intro p e s m below meth c A ls C hP hD hl
  obtain ⟨hx, hb, hml, hown, hts, hr, hlocks, hA, hG⟩ := id C
  have hS : va_S A s.heap s.heap [] := va_S.rf
  unfold fX5_wipe at hf
  refine lv_aload_n hx hb dX5_wipe_0 rfl (lv_at hl 0 rfl) ?_
  refine va_get (D := G.1) (ci := 5) (v := .ref q0_page) (C := RX5) (T := TX5) (N := 7) hx hb hts nX5_wipe_X5 hown hG.1 hP 0 rfl rfl 4 (by decide) (hts _ mX5_wipe_0) (fun _ h9 => h9) rfl dX5_wipe_1 ?_
  obtain ⟨r1, hr1, hf⟩ := bd_use hf
  refine cl_V (wn := (wdX5_wipe G q0 q0_first q0_second q0_third q0_list q0_page q0_page_cell q0_page_top q0_single q0_parts q0_parts_counts q0_parts_numbers k0_page_cell k0_parts_known)) (st1 := [.int r1]) C hP hD hS (tX2_filled l G q0_page q0_page_cell q0_page_top k0_page_cell r1 hr1) (cwV 0 hts gX5_wipe_X2_filled rfl rfl rfl (by decide +kernel) ⟨Nat.le_of_ble_eq_true rfl, Nat.le_of_ble_eq_true rfl⟩) [1, 2] [0, 3] [0, 2, 3, 1] rfl rfl rfl rfl (by decide) rfl rfl (ci := 2) (q0 := 1) rfl rfl rfl rfl hl.1 rfl rfl (Nat.le_of_ble_eq_true rfl) dX5_wipe_4 (fun H locs hP hD hS => ?_)
  refine lv_istore_n (lv' := [(1, .int r1), (0, .ref q0)]) hx hb dX5_wipe_7 rfl hl (by decide) rfl (fun ls hl => ?_)
  refine lv_aload_n hx hb dX5_wipe_8 rfl (lv_at hl 1 rfl) ?_
  refine va_get (D := G.1) (ci := 5) (v := .ref q0_page) (C := RX5) (T := TX5) (N := 7) hx hb hts nX5_wipe_X5 hown hG.1 hP 0 rfl rfl 4 (by decide) (hts _ mX5_wipe_0) (fun _ h9 => h9) rfl dX5_wipe_9 ?_
  obtain ⟨r2, hr2, hf⟩ := bd_use hf
  refine cl_V (wn := (wdX5_wipe G q0 q0_first q0_second q0_third q0_list q0_page q0_page_cell q0_page_top q0_single q0_parts q0_parts_counts q0_parts_numbers r2 k0_parts_known)) (st1 := []) C hP hD hS (tX2_clear l G q0_page q0_page_cell q0_page_top k0_page_cell r2 hr2) (cwV 0 hts gX5_wipe_X2_clear rfl rfl rfl (by decide +kernel) ⟨Nat.le_of_ble_eq_true rfl, Nat.le_of_ble_eq_true rfl⟩) [1, 2] [0, 3] [0, 2, 3, 1] rfl rfl rfl rfl (by decide) rfl rfl (ci := 2) (q0 := 1) rfl rfl rfl rfl hl.1 rfl rfl (Nat.le_of_ble_eq_true rfl) dX5_wipe_12 (fun H locs hP hD hS => ?_)
  refine lv_aload_n hx hb dX5_wipe_15 rfl (lv_at hl 1 rfl) ?_
  refine va_get (D := G.1) (ci := 5) (v := .ref q0_parts) (C := RX5) (T := TX5) (N := 7) hx hb hts nX5_wipe_X5 hown hG.1 hP 0 rfl rfl 6 (by decide) (hts _ mX5_wipe_1) (fun _ h9 => h9) rfl dX5_wipe_16 ?_
  obtain ⟨r3, hr3, hf⟩ := bd_use hf
  refine cl_V (wn := (wdX5_wipe G q0 q0_first q0_second q0_third q0_list q0_page q0_page_cell q0_page_top q0_single q0_parts q0_parts_counts q0_parts_numbers r2 r3)) (st1 := []) C hP hD hS (tX3_forget l G q0_parts q0_parts_counts q0_parts_numbers k0_parts_known r3 hr3) (cwV 0 hts gX5_wipe_X3_forget rfl rfl rfl (by decide +kernel) ⟨Nat.le_of_ble_eq_true rfl, Nat.le_of_ble_eq_true rfl⟩) [3] [0, 1, 2] [0, 1, 2, 3] rfl rfl rfl rfl (by decide) rfl rfl (ci := 3) (q0 := 3) rfl rfl rfl rfl hl.1 rfl rfl (Nat.le_of_ble_eq_true rfl) dX5_wipe_19 (fun H locs hP hD hS => ?_)
  refine lv_iload_n hx hb dX5_wipe_22 rfl (lv_at hl 0 rfl) ?_
  cases hf
  exact rt_i C hP hD hS dX5_wipe_23
abbrev wdX5_takeDraft (G : GX) (q0 : Nat) (q0_first : Nat) (q0_second : Nat) (q0_third : Nat) (q0_list : Nat) (q0_page : Nat) (q0_page_cell : Nat) (q0_page_top : Nat) (q0_single : Nat) (q0_parts : Nat) (q1 : Nat) (q1_cell : Nat) (q1_top : Nat) (k0_page_cell : Nat → Int64) (k1_cell : Nat → Int64) : va_W := [(q0, .inr (5, [.ref q0_first, .ref q0_second, .ref q0_third, .ref q0_list, .ref q0_page, .ref q0_single, .ref q0_parts])), (q0_page, .inr (2, [.ref q0_page_cell, .ref q0_page_top])), (q0_page_cell, .inl (G.2.2.1, 3024, .inr (.inl k0_page_cell))), (q1, .inr (2, [.ref q1_cell, .ref q1_top])), (q1_cell, .inl (G.2.2.1, 3024, .inr (.inl k1_cell)))]
abbrev rmX5_takeDraft : Room := { frames := 2, cells := 0, slots := 0, locals := 81 }
abbrev glX5_takeDraft (p : Program) (l : Launch) (e : Env) (s : State) (m : MethodId) (args : Array Value) (below : List Frame) (meth : Method) (c : Code) (G : GX) (A : Nat → Prop) (q0 : Nat) (q0_first : Nat) (q0_second : Nat) (q0_third : Nat) (q0_list : Nat) (q0_page : Nat) (q0_page_cell : Nat) (q0_page_top : Nat) (q0_single : Nat) (q0_parts : Nat) (q1 : Nat) (q1_cell : Nat) (q1_top : Nat) (k1_cell : Nat → Int64) (res : Int32 × (Nat → Int64)) (H : Heap) (locs : List Loc) (pc : Nat) (ls : Array Slot) (st : List Value) : Prop := W p l e rmX5_takeDraft s m args below meth c H locs 0 0 (MQ below (ctQ G A (wdX5_takeDraft G q0 q0_first q0_second q0_third q0_list q0_page q0_page_cell q0_page_top q0_single q0_parts q1 q1_cell q1_top res.2 k1_cell) (some (.int res.1))) args s 0 0 A) (F0 m pc ls st)
set_option maxRecDepth 20000 in
theorem mX5_takeDraft_0 : Cond.fieldLink RX5 36 "SchubertDesk" "page" "LSchubertDesk$Grid;" ∈ wsX5_takeDraft := by decide +kernel
set_option maxRecDepth 20000 in
theorem nX5_takeDraft_X5 : ∀ w ∈ u_ws RX5 TX5 7, w ∈ wsX5_takeDraft := by decide +kernel
set_option maxHeartbeats 4000000 in
set_option maxRecDepth 100000 in
theorem tX5_takeDraft (l : Launch) (G : GX) (q0 : Nat) (q0_first : Nat) (q0_second : Nat) (q0_third : Nat) (q0_list : Nat) (q0_page : Nat) (q0_page_cell : Nat) (q0_page_top : Nat) (q0_single : Nat) (q0_parts : Nat) (q1 : Nat) (q1_cell : Nat) (q1_top : Nat) (k0_page_cell : Nat → Int64) (k1_cell : Nat → Int64) (res : Int32 × (Nat → Int64)) (hf : fX5_takeDraft k0_page_cell k1_cell = some res) : Ct l yX5_takeDraft wsX5_takeDraft rmX5_takeDraft G [.ref q0, .ref q1] (wdX5_takeDraft G q0 q0_first q0_second q0_third q0_list q0_page q0_page_cell q0_page_top q0_single q0_parts q1 q1_cell q1_top k0_page_cell k1_cell) (wdX5_takeDraft G q0 q0_first q0_second q0_third q0_list q0_page q0_page_cell q0_page_top q0_single q0_parts q1 q1_cell q1_top res.2 k1_cell) (some (.int res.1)) := by
  refine Ct.of (cc := cX5_takeDraft) (nL := 2) (ret := (some .int)) (by decide) rfl (Nat.le_of_ble_eq_true rfl) rfl ?_
  intro p e s m below meth c A ls C hP hD hl
  obtain ⟨hx, hb, hml, hown, hts, hr, hlocks, hA, hG⟩ := id C
  have hS : va_S A s.heap s.heap [] := va_S.rf
  unfold fX5_takeDraft at hf
  refine lv_aload_n hx hb dX5_takeDraft_0 rfl (lv_at hl 1 rfl) ?_
  obtain ⟨r1, hr1, hf⟩ := bd_use hf
  refine cl_V (wn := (wdX5_takeDraft G q0 q0_first q0_second q0_third q0_list q0_page q0_page_cell q0_page_top q0_single q0_parts q1 q1_cell q1_top k0_page_cell k1_cell)) (st1 := [.int r1]) C hP hD hS (tX2_isWithinLimit l G q1 q1_cell q1_top k1_cell r1 hr1) (cwV 0 hts gX5_takeDraft_X2_isWithinLimit rfl rfl rfl (by decide +kernel) ⟨Nat.le_of_ble_eq_true rfl, Nat.le_of_ble_eq_true rfl⟩) [3, 4] [0, 1, 2] [0, 1, 2, 3, 4] rfl rfl rfl rfl (by decide) rfl rfl (ci := 2) (q0 := 3) rfl rfl rfl rfl hl.1 rfl rfl (Nat.le_of_ble_eq_true rfl) dX5_takeDraft_1 (fun H locs hP hD hS => ?_)
  refine lv_if_ne (tgt := 10) hx hb dX5_takeDraft_4 (by decide) (fun hc => ?_) (fun hc => ?_)
  · have hf := if_f hc hf
    refine lv_aload_n hx hb dX5_takeDraft_10 rfl (lv_at hl 0 rfl) ?_
    refine va_get (D := G.1) (ci := 5) (v := .ref q0_page) (C := RX5) (T := TX5) (N := 7) hx hb hts nX5_takeDraft_X5 hown hG.1 hP 0 rfl rfl 4 (by decide) (hts _ mX5_takeDraft_0) (fun _ h9 => h9) rfl dX5_takeDraft_11 ?_
    refine lv_aload_n hx hb dX5_takeDraft_14 rfl (lv_at hl 1 rfl) ?_
    obtain ⟨r2, hr2, hf⟩ := bd_use hf
    refine cl_V (wn := (wdX5_takeDraft G q0 q0_first q0_second q0_third q0_list q0_page q0_page_cell q0_page_top q0_single q0_parts q1 q1_cell q1_top r2 k1_cell)) (st1 := []) C hP hD hS (tX2_copy l G q0_page q0_page_cell q0_page_top q1 q1_cell q1_top k0_page_cell k1_cell r2 hr2) (cwV 1 hts gX5_takeDraft_X2_copy rfl rfl rfl (by decide +kernel) ⟨Nat.le_of_ble_eq_true rfl, Nat.le_of_ble_eq_true rfl⟩) [1, 2, 3, 4] [0] [0, 1, 2, 3, 4] rfl rfl rfl rfl (by decide) rfl rfl (ci := 2) (q0 := 1) rfl rfl rfl rfl hl.1 rfl rfl (Nat.le_of_ble_eq_true rfl) dX5_takeDraft_15 (fun H locs hP hD hS => ?_)
    refine lv_aload_n hx hb dX5_takeDraft_18 rfl (lv_at hl 0 rfl) ?_
    refine va_get (D := G.1) (ci := 5) (v := .ref q0_page) (C := RX5) (T := TX5) (N := 7) hx hb hts nX5_takeDraft_X5 hown hG.1 hP 0 rfl rfl 4 (by decide) (hts _ mX5_takeDraft_0) (fun _ h9 => h9) rfl dX5_takeDraft_19 ?_
    obtain ⟨r3, hr3, hf⟩ := bd_use hf
    refine cl_V (wn := (wdX5_takeDraft G q0 q0_first q0_second q0_third q0_list q0_page q0_page_cell q0_page_top q0_single q0_parts q1 q1_cell q1_top r2 k1_cell)) (st1 := [.int r3]) C hP hD hS (tX2_filled l G q0_page q0_page_cell q0_page_top r2 r3 hr3) (cwV 0 hts gX5_takeDraft_X2_filled rfl rfl rfl (by decide +kernel) ⟨Nat.le_of_ble_eq_true rfl, Nat.le_of_ble_eq_true rfl⟩) [1, 2] [0, 3, 4] [0, 3, 4, 1, 2] rfl rfl rfl rfl (by decide) rfl rfl (ci := 2) (q0 := 1) rfl rfl rfl rfl hl.1 rfl rfl (Nat.le_of_ble_eq_true rfl) dX5_takeDraft_22 (fun H locs hP hD hS => ?_)
    cases hf
    exact rt_i C hP hD hS dX5_takeDraft_25
  · have hf := if_t hc hf
    refine lv_bipush (v := (-5 : Int32)) hx hb dX5_takeDraft_7 (by decide) ?_
    cases hf
    exact rt_i C hP hD hS dX5_takeDraft_9
abbrev wdX5_add (G : GX) (q0 : Nat) (q0_first : Nat) (q0_first_row : Nat) (q0_second : Nat) (q0_third : Nat) (q0_list : Nat) (q0_page : Nat) (q0_page_cell : Nat) (q0_page_top : Nat) (q0_single : Nat) (q0_single_grid : Nat) (q0_single_grid_cell : Nat) (q0_single_grid_top : Nat) (q0_single_code : Nat) (q0_single_way : Nat) (q0_parts : Nat) (q0_parts_counts : Nat) (q0_parts_counts_cell : Nat) (q0_parts_counts_top : Nat) (q0_parts_numbers : Nat) (k0_first_row : Nat → Int32) (k0_page_cell : Nat → Int64) (k0_single_grid_cell : Nat → Int64) (k0_single_grid_top : Nat → Int32) (k0_single_code : Nat → Int32) (k0_single_way : Nat → Int32) (k0_single_made : Int32) (k0_parts_counts_cell : Nat → Int64) (k0_parts_known : Int32) : va_W := [(q0, .inr (5, [.ref q0_first, .ref q0_second, .ref q0_third, .ref q0_list, .ref q0_page, .ref q0_single, .ref q0_parts])), (q0_first, .inr (1, [.ref q0_first_row])), (q0_first_row, .inl (G.2.1, 10, .inl k0_first_row)), (q0_page, .inr (2, [.ref q0_page_cell, .ref q0_page_top])), (q0_page_cell, .inl (G.2.2.1, 3024, .inr (.inl k0_page_cell))), (q0_single, .inr (4, [.ref q0_single_grid, .ref q0_single_code, .ref q0_single_way, .int k0_single_made])), (q0_single_grid, .inr (2, [.ref q0_single_grid_cell, .ref q0_single_grid_top])), (q0_single_grid_cell, .inl (G.2.2.1, 3024, .inr (.inl k0_single_grid_cell))), (q0_single_grid_top, .inl (G.2.1, 5, .inl k0_single_grid_top)), (q0_single_code, .inl (G.2.1, 5, .inl k0_single_code)), (q0_single_way, .inl (G.2.1, 6, .inl k0_single_way)), (q0_parts, .inr (3, [.ref q0_parts_counts, .ref q0_parts_numbers, .int k0_parts_known])), (q0_parts_counts, .inr (2, [.ref q0_parts_counts_cell, .ref q0_parts_counts_top])), (q0_parts_counts_cell, .inl (G.2.2.1, 3024, .inr (.inl k0_parts_counts_cell)))]
abbrev rmX5_add : Room := { frames := 5, cells := 0, slots := 0, locals := 163 }
abbrev glX5_add (p : Program) (l : Launch) (e : Env) (s : State) (m : MethodId) (args : Array Value) (below : List Frame) (meth : Method) (c : Code) (G : GX) (A : Nat → Prop) (q0 : Nat) (q0_first : Nat) (q0_first_row : Nat) (q0_second : Nat) (q0_third : Nat) (q0_list : Nat) (q0_page : Nat) (q0_page_cell : Nat) (q0_page_top : Nat) (q0_single : Nat) (q0_single_grid : Nat) (q0_single_grid_cell : Nat) (q0_single_grid_top : Nat) (q0_single_code : Nat) (q0_single_way : Nat) (q0_parts : Nat) (q0_parts_counts : Nat) (q0_parts_counts_cell : Nat) (q0_parts_counts_top : Nat) (q0_parts_numbers : Nat) (res : Int32 × (Nat → Int32) × (Nat → Int64) × (Nat → Int64) × (Nat → Int32) × (Nat → Int32) × (Nat → Int32) × Int32 × (Nat → Int64) × Int32) (H : Heap) (locs : List Loc) (pc : Nat) (ls : Array Slot) (st : List Value) : Prop := W p l e rmX5_add s m args below meth c H locs 0 0 (MQ below (ctQ G A (wdX5_add G q0 q0_first q0_first_row q0_second q0_third q0_list q0_page q0_page_cell q0_page_top q0_single q0_single_grid q0_single_grid_cell q0_single_grid_top q0_single_code q0_single_way q0_parts q0_parts_counts q0_parts_counts_cell q0_parts_counts_top q0_parts_numbers res.2.1 res.2.2.1 res.2.2.2.1 res.2.2.2.2.1 res.2.2.2.2.2.1 res.2.2.2.2.2.2.1 res.2.2.2.2.2.2.2.1 res.2.2.2.2.2.2.2.2.1 res.2.2.2.2.2.2.2.2.2) (some (.int res.1))) args s 0 0 A) (F0 m pc ls st)
set_option maxRecDepth 20000 in
theorem mX5_add_0 : Cond.fieldLink RX5 43 "SchubertDesk" "single" "LSchubertDesk$Single;" ∈ wsX5_add := by decide +kernel
set_option maxRecDepth 20000 in
theorem mX5_add_1 : Cond.fieldLink RX5 50 "SchubertDesk" "parts" "LSchubertDesk$Parts;" ∈ wsX5_add := by decide +kernel
set_option maxRecDepth 20000 in
theorem mX5_add_2 : Cond.fieldLink RX5 36 "SchubertDesk" "page" "LSchubertDesk$Grid;" ∈ wsX5_add := by decide +kernel
set_option maxRecDepth 20000 in
theorem mX5_add_3 : Cond.fieldLink RX5 109 "SchubertDesk$Single" "grid" "LSchubertDesk$Grid;" ∈ wsX5_add := by decide +kernel
set_option maxRecDepth 20000 in
theorem nX5_add_X5 : ∀ w ∈ u_ws RX5 TX5 7, w ∈ wsX5_add := by decide +kernel
set_option maxRecDepth 20000 in
theorem nX5_add_X4 : ∀ w ∈ u_ws RX4 TX4 4, w ∈ wsX5_add := by decide +kernel
set_option maxHeartbeats 4000000 in
set_option maxRecDepth 100000 in
theorem tX5_add (l : Launch) (G : GX) (q0 : Nat) (q0_first : Nat) (q0_first_row : Nat) (q0_second : Nat) (q0_third : Nat) (q0_list : Nat) (q0_page : Nat) (q0_page_cell : Nat) (q0_page_top : Nat) (q0_single : Nat) (q0_single_grid : Nat) (q0_single_grid_cell : Nat) (q0_single_grid_top : Nat) (q0_single_code : Nat) (q0_single_way : Nat) (q0_parts : Nat) (q0_parts_counts : Nat) (q0_parts_counts_cell : Nat) (q0_parts_counts_top : Nat) (q0_parts_numbers : Nat) (k0_first_row : Nat → Int32) (k0_page_cell : Nat → Int64) (k0_single_grid_cell : Nat → Int64) (k0_single_grid_top : Nat → Int32) (k0_single_code : Nat → Int32) (k0_single_way : Nat → Int32) (k0_single_made : Int32) (k0_parts_counts_cell : Nat → Int64) (k0_parts_known : Int32) (p1 : Int32) (p2 : Int32) (res : Int32 × (Nat → Int32) × (Nat → Int64) × (Nat → Int64) × (Nat → Int32) × (Nat → Int32) × (Nat → Int32) × Int32 × (Nat → Int64) × Int32) (hf : fX5_add k0_first_row k0_page_cell k0_single_grid_cell k0_single_grid_top k0_single_code k0_single_way k0_single_made k0_parts_counts_cell k0_parts_known p1 p2 = some res) : Ct l yX5_add wsX5_add rmX5_add G [.ref q0, .int p1, .int p2] (wdX5_add G q0 q0_first q0_first_row q0_second q0_third q0_list q0_page q0_page_cell q0_page_top q0_single q0_single_grid q0_single_grid_cell q0_single_grid_top q0_single_code q0_single_way q0_parts q0_parts_counts q0_parts_counts_cell q0_parts_counts_top q0_parts_numbers k0_first_row k0_page_cell k0_single_grid_cell k0_single_grid_top k0_single_code k0_single_way k0_single_made k0_parts_counts_cell k0_parts_known) (wdX5_add G q0 q0_first q0_first_row q0_second q0_third q0_list q0_page q0_page_cell q0_page_top q0_single q0_single_grid q0_single_grid_cell q0_single_grid_top q0_single_code q0_single_way q0_parts q0_parts_counts q0_parts_counts_cell q0_parts_counts_top q0_parts_numbers res.2.1 res.2.2.1 res.2.2.2.1 res.2.2.2.2.1 res.2.2.2.2.2.1 res.2.2.2.2.2.2.1 res.2.2.2.2.2.2.2.1 res.2.2.2.2.2.2.2.2.1 res.2.2.2.2.2.2.2.2.2) (some (.int res.1)) := by
  refine Ct.of (cc := cX5_add) (nL := 5) (ret := (some .int)) (by decide) rfl (Nat.le_of_ble_eq_true rfl) rfl ?_
  intro p e s m below meth c A ls C hP hD hl
  obtain ⟨hx, hb, hml, hown, hts, hr, hlocks, hA, hG⟩ := id C
  have hS : va_S A s.heap s.heap [] := va_S.rf
  unfold fX5_add at hf
  refine lv_aload_n hx hb dX5_add_0 rfl (lv_at hl 0 rfl) ?_
  refine lv_iload_n hx hb dX5_add_1 rfl (lv_at hl 2 rfl) ?_
  obtain ⟨r1, hr1, hf⟩ := bd_use hf
  refine cl_V (wn := (wdX5_add G q0 q0_first q0_first_row q0_second q0_third q0_list q0_page q0_page_cell q0_page_top q0_single q0_single_grid q0_single_grid_cell q0_single_grid_top q0_single_code q0_single_way q0_parts q0_parts_counts q0_parts_counts_cell q0_parts_counts_top q0_parts_numbers r1.2 k0_page_cell k0_single_grid_cell k0_single_grid_top k0_single_code k0_single_way k0_single_made k0_parts_counts_cell k0_parts_known)) (st1 := [.int r1.1]) C hP hD hS (tX5_fitCell l G q0 q0_first q0_first_row q0_second q0_third q0_list q0_page q0_single q0_parts k0_first_row p2 r1 hr1) (cwV 1 hts gX5_add_X5_fitCell rfl rfl rfl (by decide +kernel) ⟨Nat.le_of_ble_eq_true rfl, Nat.le_of_ble_eq_true rfl⟩) [0, 1, 2] [3, 4, 5, 6, 7, 8, 9, 10, 11, 12, 13] [11, 12, 13, 0, 1, 2, 3, 4, 5, 6, 7, 8, 9, 10] rfl rfl rfl rfl (by decide) rfl rfl (ci := 5) (q0 := 0) rfl rfl rfl rfl hl.1 rfl rfl (Nat.le_of_ble_eq_true rfl) dX5_add_2 (fun H locs hP hD hS => ?_)
  refine lv_istore_n (lv' := [(3, .int r1.1), (0, .ref q0), (1, .int p1), (2, .int p2)]) hx hb dX5_add_5 rfl hl (by decide) rfl (fun ls hl => ?_)
  refine lv_iload_n hx hb dX5_add_6 rfl (lv_at hl 0 rfl) ?_
  refine lv_bipush (v := (-2 : Int32)) hx hb dX5_add_7 (by decide) ?_
  refine lv_icmp_eq (tgt := 26) hx hb dX5_add_9 (by decide) (fun hc => ?_) (fun hc => ?_)
  · have hf := if_t hc hf
    refine lv_bipush (v := (-2 : Int32)) hx hb dX5_add_26 (by decide) ?_
    cases hf
    exact rt_i C hP hD hS dX5_add_28
  · have hf := if_f hc hf
    refine lv_iload_n hx hb dX5_add_12 rfl (lv_at hl 2 rfl) ?_
    refine lv_sipush (v := (-1000 : Int32)) hx hb dX5_add_13 (by decide) ?_
    refine lv_icmp_lt (tgt := 26) hx hb dX5_add_16 (by decide) (fun hc => ?_) (fun hc => ?_)
    · have hf := if_t hc hf
      refine lv_bipush (v := (-2 : Int32)) hx hb dX5_add_26 (by decide) ?_
      cases hf
      exact rt_i C hP hD hS dX5_add_28
    · have hf := if_f hc hf
      refine lv_iload_n hx hb dX5_add_19 rfl (lv_at hl 2 rfl) ?_
      refine lv_sipush (v := (1000 : Int32)) hx hb dX5_add_20 (by decide) ?_
      refine lv_icmp_le (tgt := 29) hx hb dX5_add_23 (by decide) (fun hc => ?_) (fun hc => ?_)
      · have hf := if_t hc hf
        refine lv_iload_n hx hb dX5_add_29 rfl (lv_at hl 0 rfl) ?_
        refine lv_if_ge (tgt := 35) hx hb dX5_add_30 (by decide) (fun hc => ?_) (fun hc => ?_)
        · have hf := if_t hc hf
          refine lv_aload_n hx hb dX5_add_35 rfl (lv_at hl 1 rfl) ?_
          refine va_get (D := G.1) (ci := 5) (v := .ref q0_single) (C := RX5) (T := TX5) (N := 7) hx hb hts nX5_add_X5 hown hG.1 hP 0 rfl rfl 5 (by decide) (hts _ mX5_add_0) (fun _ h9 => h9) rfl dX5_add_36 ?_
          refine lv_iload_n hx hb dX5_add_39 rfl (lv_at hl 0 rfl) ?_
          obtain ⟨r2, hr2, hf⟩ := bd_use hf
          refine cl_V (wn := (wdX5_add G q0 q0_first q0_first_row q0_second q0_third q0_list q0_page q0_page_cell q0_page_top q0_single q0_single_grid q0_single_grid_cell q0_single_grid_top q0_single_code q0_single_way q0_parts q0_parts_counts q0_parts_counts_cell q0_parts_counts_top q0_parts_numbers r1.2 k0_page_cell r2.1 r2.2.1 r2.2.2.1 r2.2.2.2.1 r2.2.2.2.2 k0_parts_counts_cell k0_parts_known)) (st1 := []) C hP hD hS (tX4_make l G q0_single q0_single_grid q0_single_grid_cell q0_single_grid_top q0_single_code q0_single_way k0_single_grid_cell k0_single_grid_top k0_single_code k0_single_way k0_single_made r1.1 r2 hr2) (cwV 1 hts gX5_add_X4_make rfl rfl rfl (by decide +kernel) ⟨Nat.le_of_ble_eq_true rfl, Nat.le_of_ble_eq_true rfl⟩) [5, 6, 7, 8, 9, 10] [0, 1, 2, 3, 4, 11, 12, 13] [0, 1, 2, 3, 4, 8, 9, 10, 11, 12, 13, 5, 6, 7] rfl rfl rfl rfl (by decide) rfl rfl (ci := 4) (q0 := 5) rfl rfl rfl rfl hl.1 rfl rfl (Nat.le_of_ble_eq_true rfl) dX5_add_40 (fun H locs hP hD hS => ?_)
          refine lv_aload_n hx hb dX5_add_43 rfl (lv_at hl 1 rfl) ?_
          refine va_get (D := G.1) (ci := 5) (v := .ref q0_parts) (C := RX5) (T := TX5) (N := 7) hx hb hts nX5_add_X5 hown hG.1 hP 0 rfl rfl 6 (by decide) (hts _ mX5_add_1) (fun _ h9 => h9) rfl dX5_add_44 ?_
          obtain ⟨r3, hr3, hf⟩ := bd_use hf
          refine cl_V (wn := (wdX5_add G q0 q0_first q0_first_row q0_second q0_third q0_list q0_page q0_page_cell q0_page_top q0_single q0_single_grid q0_single_grid_cell q0_single_grid_top q0_single_code q0_single_way q0_parts q0_parts_counts q0_parts_counts_cell q0_parts_counts_top q0_parts_numbers r1.2 k0_page_cell r2.1 r2.2.1 r2.2.2.1 r2.2.2.2.1 r2.2.2.2.2 k0_parts_counts_cell r3)) (st1 := [.ref q0_parts_counts]) C hP hD hS (tX3_lendCells l G q0_parts q0_parts_counts q0_parts_numbers k0_parts_known r3 hr3) (cwV 0 hts gX5_add_X3_lendCells rfl rfl rfl (by decide +kernel) ⟨Nat.le_of_ble_eq_true rfl, Nat.le_of_ble_eq_true rfl⟩) [11] [0, 1, 2, 3, 4, 5, 6, 7, 8, 9, 10, 12, 13] [0, 1, 2, 3, 4, 5, 6, 7, 8, 9, 10, 13, 11, 12] rfl rfl rfl rfl (by decide) rfl rfl (ci := 3) (q0 := 11) rfl rfl rfl rfl hl.1 rfl rfl (Nat.le_of_ble_eq_true rfl) dX5_add_47 (fun H locs hP hD hS => ?_)
          refine lv_astore (lv' := [(4, .ref q0_parts_counts), (3, .int r1.1), (0, .ref q0), (1, .int p1), (2, .int p2)]) hx hb dX5_add_50 hl (by decide) rfl (fun ls hl => ?_)
          refine lv_aload hx hb dX5_add_52 (lv_at hl 0 rfl) ?_
          refine lv_aload_n hx hb dX5_add_54 rfl (lv_at hl 2 rfl) ?_
          refine va_get (D := G.1) (ci := 5) (v := .ref q0_page) (C := RX5) (T := TX5) (N := 7) hx hb hts nX5_add_X5 hown hG.1 hP 0 rfl rfl 4 (by decide) (hts _ mX5_add_2) (fun _ h9 => h9) rfl dX5_add_55 ?_
          obtain ⟨r4, hr4, hf⟩ := bd_use hf
          refine cl_V (wn := (wdX5_add G q0 q0_first q0_first_row q0_second q0_third q0_list q0_page q0_page_cell q0_page_top q0_single q0_single_grid q0_single_grid_cell q0_single_grid_top q0_single_code q0_single_way q0_parts q0_parts_counts q0_parts_counts_cell q0_parts_counts_top q0_parts_numbers r1.2 k0_page_cell r2.1 r2.2.1 r2.2.2.1 r2.2.2.2.1 r2.2.2.2.2 r4 r3)) (st1 := []) C hP hD hS (tX2_copy l G q0_parts_counts q0_parts_counts_cell q0_parts_counts_top q0_page q0_page_cell q0_page_top k0_parts_counts_cell k0_page_cell r4 hr4) (cwV 1 hts gX5_add_X2_copy rfl rfl rfl (by decide +kernel) ⟨Nat.le_of_ble_eq_true rfl, Nat.le_of_ble_eq_true rfl⟩) [12, 13, 3, 4] [0, 1, 2, 5, 6, 7, 8, 9, 10, 11] [0, 1, 2, 12, 13, 3, 4, 5, 6, 7, 8, 9, 10, 11] rfl rfl rfl rfl (by decide) rfl rfl (ci := 2) (q0 := 12) rfl rfl rfl rfl hl.1 rfl rfl (Nat.le_of_ble_eq_true rfl) dX5_add_58 (fun H locs hP hD hS => ?_)
          refine lv_aload hx hb dX5_add_61 (lv_at hl 0 rfl) ?_
          refine lv_iload_n hx hb dX5_add_63 rfl (lv_at hl 3 rfl) ?_
          refine lv_i2l hx hb dX5_add_64 rfl ?_
          refine lv_aload_n hx hb dX5_add_65 rfl (lv_at hl 2 rfl) ?_
          refine va_get (D := G.1) (ci := 5) (v := .ref q0_single) (C := RX5) (T := TX5) (N := 7) hx hb hts nX5_add_X5 hown hG.1 hP 0 rfl rfl 5 (by decide) (hts _ mX5_add_0) (fun _ h9 => h9) rfl dX5_add_66 ?_
          refine va_get (D := G.1) (ci := 4) (v := .ref q0_single_grid) (C := RX4) (T := TX4) (N := 4) hx hb hts nX5_add_X4 hown hG.1 hP 5 rfl rfl 0 (by decide) (hts _ mX5_add_3) (fun _ h9 => h9) rfl dX5_add_69 ?_
          refine lv_sipush (v := (3024 : Int32)) hx hb dX5_add_72 (by decide) ?_
          obtain ⟨r5, hr5, hf⟩ := bd_use hf
          refine cl_V (wn := (wdX5_add G q0 q0_first q0_first_row q0_second q0_third q0_list q0_page q0_page_cell q0_page_top q0_single q0_single_grid q0_single_grid_cell q0_single_grid_top q0_single_code q0_single_way q0_parts q0_parts_counts q0_parts_counts_cell q0_parts_counts_top q0_parts_numbers r1.2 k0_page_cell r2.1 r2.2.1 r2.2.2.1 r2.2.2.2.1 r2.2.2.2.2 r5 r3)) (st1 := []) C hP hD hS (tX2_addTimes l G q0_parts_counts q0_parts_counts_cell q0_parts_counts_top q0_single_grid q0_single_grid_cell q0_single_grid_top r4 r2.1 (p1).toInt64 (3024 : Int32) r5 hr5) (cwV 3 hts gX5_add_X2_addTimes rfl rfl rfl (by decide +kernel) ⟨Nat.le_of_ble_eq_true rfl, Nat.le_of_ble_eq_true rfl⟩) [12, 13, 6, 7] [0, 1, 2, 3, 4, 5, 8, 9, 10, 11] [0, 1, 2, 3, 4, 5, 12, 13, 6, 7, 8, 9, 10, 11] rfl rfl rfl rfl (by decide) rfl rfl (ci := 2) (q0 := 12) rfl rfl rfl rfl hl.1 rfl rfl (Nat.le_of_ble_eq_true rfl) dX5_add_75 (fun H locs hP hD hS => ?_)
          refine lv_aload_n hx hb dX5_add_78 rfl (lv_at hl 2 rfl) ?_
          refine lv_aload hx hb dX5_add_79 (lv_at hl 0 rfl) ?_
          obtain ⟨r6, hr6, hf⟩ := bd_use hf
          refine cl_V (wn := (wdX5_add G q0 q0_first q0_first_row q0_second q0_third q0_list q0_page q0_page_cell q0_page_top q0_single q0_single_grid q0_single_grid_cell q0_single_grid_top q0_single_code q0_single_way q0_parts q0_parts_counts q0_parts_counts_cell q0_parts_counts_top q0_parts_numbers r1.2 r6.2 r2.1 r2.2.1 r2.2.2.1 r2.2.2.2.1 r2.2.2.2.2 r5 r3)) (st1 := [.int r6.1]) C hP hD hS (tX5_takeDraft l G q0 q0_first q0_second q0_third q0_list q0_page q0_page_cell q0_page_top q0_single q0_parts q0_parts_counts q0_parts_counts_cell q0_parts_counts_top k0_page_cell r5 r6 hr6) (cwV 1 hts gX5_add_X5_takeDraft rfl rfl rfl (by decide +kernel) ⟨Nat.le_of_ble_eq_true rfl, Nat.le_of_ble_eq_true rfl⟩) [0, 3, 4, 12, 13] [1, 2, 5, 6, 7, 8, 9, 10, 11] [9, 0, 1, 10, 11, 2, 3, 4, 5, 6, 7, 8, 12, 13] rfl rfl rfl rfl (by decide) rfl rfl (ci := 5) (q0 := 0) rfl rfl rfl rfl hl.1 rfl rfl (Nat.le_of_ble_eq_true rfl) dX5_add_81 (fun H locs hP hD hS => ?_)
          cases hf
          exact rt_i C hP hD hS dX5_add_84
        · have hf := if_f hc hf
          refine lv_iload_n hx hb dX5_add_33 rfl (lv_at hl 0 rfl) ?_
          cases hf
          exact rt_i C hP hD hS dX5_add_34
      · have hf := if_f hc hf
        refine lv_bipush (v := (-2 : Int32)) hx hb dX5_add_26 (by decide) ?_
        cases hf
        exact rt_i C hP hD hS dX5_add_28
abbrev wdX5_multiply (G : GX) (q0 : Nat) (q0_first : Nat) (q0_first_row : Nat) (q0_second : Nat) (q0_third : Nat) (q0_list : Nat) (q0_page : Nat) (q0_page_cell : Nat) (q0_page_top : Nat) (q0_single : Nat) (q0_single_grid : Nat) (q0_single_grid_cell : Nat) (q0_single_grid_top : Nat) (q0_single_code : Nat) (q0_single_way : Nat) (q0_parts : Nat) (q0_parts_counts : Nat) (q0_parts_counts_cell : Nat) (q0_parts_counts_top : Nat) (q0_parts_numbers : Nat) (k0_first_row : Nat → Int32) (k0_page_cell : Nat → Int64) (k0_page_top : Nat → Int32) (k0_single_grid_cell : Nat → Int64) (k0_single_grid_top : Nat → Int32) (k0_single_code : Nat → Int32) (k0_single_way : Nat → Int32) (k0_single_made : Int32) (k0_parts_counts_cell : Nat → Int64) (k0_parts_known : Int32) : va_W := [(q0, .inr (5, [.ref q0_first, .ref q0_second, .ref q0_third, .ref q0_list, .ref q0_page, .ref q0_single, .ref q0_parts])), (q0_first, .inr (1, [.ref q0_first_row])), (q0_first_row, .inl (G.2.1, 10, .inl k0_first_row)), (q0_page, .inr (2, [.ref q0_page_cell, .ref q0_page_top])), (q0_page_cell, .inl (G.2.2.1, 3024, .inr (.inl k0_page_cell))), (q0_page_top, .inl (G.2.1, 5, .inl k0_page_top)), (q0_single, .inr (4, [.ref q0_single_grid, .ref q0_single_code, .ref q0_single_way, .int k0_single_made])), (q0_single_grid, .inr (2, [.ref q0_single_grid_cell, .ref q0_single_grid_top])), (q0_single_grid_cell, .inl (G.2.2.1, 3024, .inr (.inl k0_single_grid_cell))), (q0_single_grid_top, .inl (G.2.1, 5, .inl k0_single_grid_top)), (q0_single_code, .inl (G.2.1, 5, .inl k0_single_code)), (q0_single_way, .inl (G.2.1, 6, .inl k0_single_way)), (q0_parts, .inr (3, [.ref q0_parts_counts, .ref q0_parts_numbers, .int k0_parts_known])), (q0_parts_counts, .inr (2, [.ref q0_parts_counts_cell, .ref q0_parts_counts_top])), (q0_parts_counts_cell, .inl (G.2.2.1, 3024, .inr (.inl k0_parts_counts_cell)))]
abbrev rmX5_multiply : Room := { frames := 5, cells := 0, slots := 0, locals := 163 }
abbrev glX5_multiply (p : Program) (l : Launch) (e : Env) (s : State) (m : MethodId) (args : Array Value) (below : List Frame) (meth : Method) (c : Code) (G : GX) (A : Nat → Prop) (q0 : Nat) (q0_first : Nat) (q0_first_row : Nat) (q0_second : Nat) (q0_third : Nat) (q0_list : Nat) (q0_page : Nat) (q0_page_cell : Nat) (q0_page_top : Nat) (q0_single : Nat) (q0_single_grid : Nat) (q0_single_grid_cell : Nat) (q0_single_grid_top : Nat) (q0_single_code : Nat) (q0_single_way : Nat) (q0_parts : Nat) (q0_parts_counts : Nat) (q0_parts_counts_cell : Nat) (q0_parts_counts_top : Nat) (q0_parts_numbers : Nat) (res : Int32 × (Nat → Int32) × (Nat → Int64) × (Nat → Int32) × (Nat → Int64) × (Nat → Int32) × (Nat → Int32) × (Nat → Int32) × Int32 × (Nat → Int64) × Int32) (H : Heap) (locs : List Loc) (pc : Nat) (ls : Array Slot) (st : List Value) : Prop := W p l e rmX5_multiply s m args below meth c H locs 0 0 (MQ below (ctQ G A (wdX5_multiply G q0 q0_first q0_first_row q0_second q0_third q0_list q0_page q0_page_cell q0_page_top q0_single q0_single_grid q0_single_grid_cell q0_single_grid_top q0_single_code q0_single_way q0_parts q0_parts_counts q0_parts_counts_cell q0_parts_counts_top q0_parts_numbers res.2.1 res.2.2.1 res.2.2.2.1 res.2.2.2.2.1 res.2.2.2.2.2.1 res.2.2.2.2.2.2.1 res.2.2.2.2.2.2.2.1 res.2.2.2.2.2.2.2.2.1 res.2.2.2.2.2.2.2.2.2.1 res.2.2.2.2.2.2.2.2.2.2) (some (.int res.1))) args s 0 0 A) (F0 m pc ls st)
set_option maxRecDepth 20000 in
theorem mX5_multiply_0 : Cond.fieldLink RX5 43 "SchubertDesk" "single" "LSchubertDesk$Single;" ∈ wsX5_multiply := by decide +kernel
set_option maxRecDepth 20000 in
theorem mX5_multiply_1 : Cond.fieldLink RX5 36 "SchubertDesk" "page" "LSchubertDesk$Grid;" ∈ wsX5_multiply := by decide +kernel
set_option maxRecDepth 20000 in
theorem mX5_multiply_2 : Cond.fieldLink RX5 109 "SchubertDesk$Single" "grid" "LSchubertDesk$Grid;" ∈ wsX5_multiply := by decide +kernel
set_option maxRecDepth 20000 in
theorem mX5_multiply_3 : Cond.fieldLink RX5 50 "SchubertDesk" "parts" "LSchubertDesk$Parts;" ∈ wsX5_multiply := by decide +kernel
set_option maxRecDepth 20000 in
theorem nX5_multiply_X5 : ∀ w ∈ u_ws RX5 TX5 7, w ∈ wsX5_multiply := by decide +kernel
set_option maxRecDepth 20000 in
theorem nX5_multiply_X4 : ∀ w ∈ u_ws RX4 TX4 4, w ∈ wsX5_multiply := by decide +kernel
set_option maxHeartbeats 4000000 in
set_option maxRecDepth 100000 in
theorem tX5_multiply (l : Launch) (G : GX) (q0 : Nat) (q0_first : Nat) (q0_first_row : Nat) (q0_second : Nat) (q0_third : Nat) (q0_list : Nat) (q0_page : Nat) (q0_page_cell : Nat) (q0_page_top : Nat) (q0_single : Nat) (q0_single_grid : Nat) (q0_single_grid_cell : Nat) (q0_single_grid_top : Nat) (q0_single_code : Nat) (q0_single_way : Nat) (q0_parts : Nat) (q0_parts_counts : Nat) (q0_parts_counts_cell : Nat) (q0_parts_counts_top : Nat) (q0_parts_numbers : Nat) (k0_first_row : Nat → Int32) (k0_page_cell : Nat → Int64) (k0_page_top : Nat → Int32) (k0_single_grid_cell : Nat → Int64) (k0_single_grid_top : Nat → Int32) (k0_single_code : Nat → Int32) (k0_single_way : Nat → Int32) (k0_single_made : Int32) (k0_parts_counts_cell : Nat → Int64) (k0_parts_known : Int32) (p1 : Int32) (res : Int32 × (Nat → Int32) × (Nat → Int64) × (Nat → Int32) × (Nat → Int64) × (Nat → Int32) × (Nat → Int32) × (Nat → Int32) × Int32 × (Nat → Int64) × Int32) (hf : fX5_multiply k0_first_row k0_page_cell k0_page_top k0_single_grid_cell k0_single_grid_top k0_single_code k0_single_way k0_single_made k0_parts_counts_cell k0_parts_known p1 = some res) : Ct l yX5_multiply wsX5_multiply rmX5_multiply G [.ref q0, .int p1] (wdX5_multiply G q0 q0_first q0_first_row q0_second q0_third q0_list q0_page q0_page_cell q0_page_top q0_single q0_single_grid q0_single_grid_cell q0_single_grid_top q0_single_code q0_single_way q0_parts q0_parts_counts q0_parts_counts_cell q0_parts_counts_top q0_parts_numbers k0_first_row k0_page_cell k0_page_top k0_single_grid_cell k0_single_grid_top k0_single_code k0_single_way k0_single_made k0_parts_counts_cell k0_parts_known) (wdX5_multiply G q0 q0_first q0_first_row q0_second q0_third q0_list q0_page q0_page_cell q0_page_top q0_single q0_single_grid q0_single_grid_cell q0_single_grid_top q0_single_code q0_single_way q0_parts q0_parts_counts q0_parts_counts_cell q0_parts_counts_top q0_parts_numbers res.2.1 res.2.2.1 res.2.2.2.1 res.2.2.2.2.1 res.2.2.2.2.2.1 res.2.2.2.2.2.2.1 res.2.2.2.2.2.2.2.1 res.2.2.2.2.2.2.2.2.1 res.2.2.2.2.2.2.2.2.2.1 res.2.2.2.2.2.2.2.2.2.2) (some (.int res.1)) := by
  refine Ct.of (cc := cX5_multiply) (nL := 4) (ret := (some .int)) (by decide) rfl (Nat.le_of_ble_eq_true rfl) rfl ?_
  intro p e s m below meth c A ls C hP hD hl
  obtain ⟨hx, hb, hml, hown, hts, hr, hlocks, hA, hG⟩ := id C
  have hS : va_S A s.heap s.heap [] := va_S.rf
  unfold fX5_multiply at hf
  refine lv_aload_n hx hb dX5_multiply_0 rfl (lv_at hl 0 rfl) ?_
  refine lv_iload_n hx hb dX5_multiply_1 rfl (lv_at hl 1 rfl) ?_
  obtain ⟨r1, hr1, hf⟩ := bd_use hf
  refine cl_V (wn := (wdX5_multiply G q0 q0_first q0_first_row q0_second q0_third q0_list q0_page q0_page_cell q0_page_top q0_single q0_single_grid q0_single_grid_cell q0_single_grid_top q0_single_code q0_single_way q0_parts q0_parts_counts q0_parts_counts_cell q0_parts_counts_top q0_parts_numbers r1.2 k0_page_cell k0_page_top k0_single_grid_cell k0_single_grid_top k0_single_code k0_single_way k0_single_made k0_parts_counts_cell k0_parts_known)) (st1 := [.int r1.1]) C hP hD hS (tX5_fitCell l G q0 q0_first q0_first_row q0_second q0_third q0_list q0_page q0_single q0_parts k0_first_row p1 r1 hr1) (cwV 1 hts gX5_multiply_X5_fitCell rfl rfl rfl (by decide +kernel) ⟨Nat.le_of_ble_eq_true rfl, Nat.le_of_ble_eq_true rfl⟩) [0, 1, 2] [3, 4, 5, 6, 7, 8, 9, 10, 11, 12, 13, 14] [12, 13, 14, 0, 1, 2, 3, 4, 5, 6, 7, 8, 9, 10, 11] rfl rfl rfl rfl (by decide) rfl rfl (ci := 5) (q0 := 0) rfl rfl rfl rfl hl.1 rfl rfl (Nat.le_of_ble_eq_true rfl) dX5_multiply_2 (fun H locs hP hD hS => ?_)
  refine lv_istore_n (lv' := [(2, .int r1.1), (0, .ref q0), (1, .int p1)]) hx hb dX5_multiply_5 rfl hl (by decide) rfl (fun ls hl => ?_)
  refine lv_iload_n hx hb dX5_multiply_6 rfl (lv_at hl 0 rfl) ?_
  refine lv_if_ge (tgt := 12) hx hb dX5_multiply_7 (by decide) (fun hc => ?_) (fun hc => ?_)
  · have hf := if_t hc hf
    refine lv_aload_n hx hb dX5_multiply_12 rfl (lv_at hl 1 rfl) ?_
    refine va_get (D := G.1) (ci := 5) (v := .ref q0_single) (C := RX5) (T := TX5) (N := 7) hx hb hts nX5_multiply_X5 hown hG.1 hP 0 rfl rfl 5 (by decide) (hts _ mX5_multiply_0) (fun _ h9 => h9) rfl dX5_multiply_13 ?_
    refine lv_iload_n hx hb dX5_multiply_16 rfl (lv_at hl 0 rfl) ?_
    obtain ⟨r2, hr2, hf⟩ := bd_use hf
    refine cl_V (wn := (wdX5_multiply G q0 q0_first q0_first_row q0_second q0_third q0_list q0_page q0_page_cell q0_page_top q0_single q0_single_grid q0_single_grid_cell q0_single_grid_top q0_single_code q0_single_way q0_parts q0_parts_counts q0_parts_counts_cell q0_parts_counts_top q0_parts_numbers r1.2 k0_page_cell k0_page_top r2.1 r2.2.1 r2.2.2.1 r2.2.2.2.1 r2.2.2.2.2 k0_parts_counts_cell k0_parts_known)) (st1 := []) C hP hD hS (tX4_make l G q0_single q0_single_grid q0_single_grid_cell q0_single_grid_top q0_single_code q0_single_way k0_single_grid_cell k0_single_grid_top k0_single_code k0_single_way k0_single_made r1.1 r2 hr2) (cwV 1 hts gX5_multiply_X4_make rfl rfl rfl (by decide +kernel) ⟨Nat.le_of_ble_eq_true rfl, Nat.le_of_ble_eq_true rfl⟩) [6, 7, 8, 9, 10, 11] [0, 1, 2, 3, 4, 5, 12, 13, 14] [0, 1, 2, 3, 4, 5, 9, 10, 11, 12, 13, 14, 6, 7, 8] rfl rfl rfl rfl (by decide) rfl rfl (ci := 4) (q0 := 6) rfl rfl rfl rfl hl.1 rfl rfl (Nat.le_of_ble_eq_true rfl) dX5_multiply_17 (fun H locs hP hD hS => ?_)
    refine lv_aload_n hx hb dX5_multiply_20 rfl (lv_at hl 1 rfl) ?_
    refine va_get (D := G.1) (ci := 5) (v := .ref q0_page) (C := RX5) (T := TX5) (N := 7) hx hb hts nX5_multiply_X5 hown hG.1 hP 0 rfl rfl 4 (by decide) (hts _ mX5_multiply_1) (fun _ h9 => h9) rfl dX5_multiply_21 ?_
    obtain ⟨r3, hr3, hf⟩ := bd_use hf
    refine cl_V (wn := (wdX5_multiply G q0 q0_first q0_first_row q0_second q0_third q0_list q0_page q0_page_cell q0_page_top q0_single q0_single_grid q0_single_grid_cell q0_single_grid_top q0_single_code q0_single_way q0_parts q0_parts_counts q0_parts_counts_cell q0_parts_counts_top q0_parts_numbers r1.2 k0_page_cell r3 r2.1 r2.2.1 r2.2.2.1 r2.2.2.2.1 r2.2.2.2.2 k0_parts_counts_cell k0_parts_known)) (st1 := []) C hP hD hS (tX2_measure l G q0_page q0_page_cell q0_page_top k0_page_cell k0_page_top r3 hr3) (cwV 0 hts gX5_multiply_X2_measure rfl rfl rfl (by decide +kernel) ⟨Nat.le_of_ble_eq_true rfl, Nat.le_of_ble_eq_true rfl⟩) [3, 4, 5] [0, 1, 2, 6, 7, 8, 9, 10, 11, 12, 13, 14] [0, 1, 2, 12, 13, 14, 3, 4, 5, 6, 7, 8, 9, 10, 11] rfl rfl rfl rfl (by decide) rfl rfl (ci := 2) (q0 := 3) rfl rfl rfl rfl hl.1 rfl rfl (Nat.le_of_ble_eq_true rfl) dX5_multiply_24 (fun H locs hP hD hS => ?_)
    refine lv_aload_n hx hb dX5_multiply_27 rfl (lv_at hl 1 rfl) ?_
    refine va_get (D := G.1) (ci := 5) (v := .ref q0_single) (C := RX5) (T := TX5) (N := 7) hx hb hts nX5_multiply_X5 hown hG.1 hP 0 rfl rfl 5 (by decide) (hts _ mX5_multiply_0) (fun _ h9 => h9) rfl dX5_multiply_28 ?_
    refine va_get (D := G.1) (ci := 4) (v := .ref q0_single_grid) (C := RX4) (T := TX4) (N := 4) hx hb hts nX5_multiply_X4 hown hG.1 hP 6 rfl rfl 0 (by decide) (hts _ mX5_multiply_2) (fun _ h9 => h9) rfl dX5_multiply_31 ?_
    obtain ⟨r4, hr4, hf⟩ := bd_use hf
    refine cl_V (wn := (wdX5_multiply G q0 q0_first q0_first_row q0_second q0_third q0_list q0_page q0_page_cell q0_page_top q0_single q0_single_grid q0_single_grid_cell q0_single_grid_top q0_single_code q0_single_way q0_parts q0_parts_counts q0_parts_counts_cell q0_parts_counts_top q0_parts_numbers r1.2 k0_page_cell r3 r2.1 r4 r2.2.2.1 r2.2.2.2.1 r2.2.2.2.2 k0_parts_counts_cell k0_parts_known)) (st1 := []) C hP hD hS (tX2_measure l G q0_single_grid q0_single_grid_cell q0_single_grid_top r2.1 r2.2.1 r4 hr4) (cwV 0 hts gX5_multiply_X2_measure rfl rfl rfl (by decide +kernel) ⟨Nat.le_of_ble_eq_true rfl, Nat.le_of_ble_eq_true rfl⟩) [7, 8, 9] [0, 1, 2, 3, 4, 5, 6, 10, 11, 12, 13, 14] [0, 1, 2, 3, 4, 5, 6, 12, 13, 14, 7, 8, 9, 10, 11] rfl rfl rfl rfl (by decide) rfl rfl (ci := 2) (q0 := 7) rfl rfl rfl rfl hl.1 rfl rfl (Nat.le_of_ble_eq_true rfl) dX5_multiply_34 (fun H locs hP hD hS => ?_)
    refine lv_aload_n hx hb dX5_multiply_37 rfl (lv_at hl 1 rfl) ?_
    refine va_get (D := G.1) (ci := 5) (v := .ref q0_page) (C := RX5) (T := TX5) (N := 7) hx hb hts nX5_multiply_X5 hown hG.1 hP 0 rfl rfl 4 (by decide) (hts _ mX5_multiply_1) (fun _ h9 => h9) rfl dX5_multiply_38 ?_
    obtain ⟨r5, hr5, hf⟩ := bd_use hf
    refine cl_V (wn := (wdX5_multiply G q0 q0_first q0_first_row q0_second q0_third q0_list q0_page q0_page_cell q0_page_top q0_single q0_single_grid q0_single_grid_cell q0_single_grid_top q0_single_code q0_single_way q0_parts q0_parts_counts q0_parts_counts_cell q0_parts_counts_top q0_parts_numbers r1.2 k0_page_cell r3 r2.1 r4 r2.2.2.1 r2.2.2.2.1 r2.2.2.2.2 k0_parts_counts_cell k0_parts_known)) (st1 := [.int r5]) C hP hD hS (tX2_filled l G q0_page q0_page_cell q0_page_top k0_page_cell r5 hr5) (cwV 0 hts gX5_multiply_X2_filled rfl rfl rfl (by decide +kernel) ⟨Nat.le_of_ble_eq_true rfl, Nat.le_of_ble_eq_true rfl⟩) [3, 4] [0, 1, 2, 5, 6, 7, 8, 9, 10, 11, 12, 13, 14] [0, 1, 2, 13, 14, 3, 4, 5, 6, 7, 8, 9, 10, 11, 12] rfl rfl rfl rfl (by decide) rfl rfl (ci := 2) (q0 := 3) rfl rfl rfl rfl hl.1 rfl rfl (Nat.le_of_ble_eq_true rfl) dX5_multiply_41 (fun H locs hP hD hS => ?_)
    refine lv_if_ne (tgt := 49) hx hb dX5_multiply_44 (by decide) (fun hc => ?_) (fun hc => ?_)
    · have hf := if_f hc hf
      refine lv_aload_n hx hb dX5_multiply_49 rfl (lv_at hl 1 rfl) ?_
      refine va_get (D := G.1) (ci := 5) (v := .ref q0_page) (C := RX5) (T := TX5) (N := 7) hx hb hts nX5_multiply_X5 hown hG.1 hP 0 rfl rfl 4 (by decide) (hts _ mX5_multiply_1) (fun _ h9 => h9) rfl dX5_multiply_50 ?_
      refine lv_aload_n hx hb dX5_multiply_53 rfl (lv_at hl 1 rfl) ?_
      refine va_get (D := G.1) (ci := 5) (v := .ref q0_single) (C := RX5) (T := TX5) (N := 7) hx hb hts nX5_multiply_X5 hown hG.1 hP 0 rfl rfl 5 (by decide) (hts _ mX5_multiply_0) (fun _ h9 => h9) rfl dX5_multiply_54 ?_
      refine va_get (D := G.1) (ci := 4) (v := .ref q0_single_grid) (C := RX4) (T := TX4) (N := 4) hx hb hts nX5_multiply_X4 hown hG.1 hP 6 rfl rfl 0 (by decide) (hts _ mX5_multiply_2) (fun _ h9 => h9) rfl dX5_multiply_57 ?_
      obtain ⟨r6, hr6, hf⟩ := bd_use hf
      refine cl_V (wn := (wdX5_multiply G q0 q0_first q0_first_row q0_second q0_third q0_list q0_page q0_page_cell q0_page_top q0_single q0_single_grid q0_single_grid_cell q0_single_grid_top q0_single_code q0_single_way q0_parts q0_parts_counts q0_parts_counts_cell q0_parts_counts_top q0_parts_numbers r1.2 k0_page_cell r3 r2.1 r4 r2.2.2.1 r2.2.2.2.1 r2.2.2.2.2 k0_parts_counts_cell k0_parts_known)) (st1 := [.int r6]) C hP hD hS (tX2_hasRoomFor l G q0_page q0_page_cell q0_page_top q0_single_grid q0_single_grid_cell q0_single_grid_top r3 r4 r6 hr6) (cwV 1 hts gX5_multiply_X2_hasRoomFor rfl rfl rfl (by decide +kernel) ⟨Nat.le_of_ble_eq_true rfl, Nat.le_of_ble_eq_true rfl⟩) [3, 5, 7, 9] [0, 1, 2, 4, 6, 8, 10, 11, 12, 13, 14] [0, 1, 2, 11, 3, 12, 4, 13, 5, 14, 6, 7, 8, 9, 10] rfl rfl rfl rfl (by decide) rfl rfl (ci := 2) (q0 := 3) rfl rfl rfl rfl hl.1 rfl rfl (Nat.le_of_ble_eq_true rfl) dX5_multiply_60 (fun H locs hP hD hS => ?_)
      refine lv_if_ne (tgt := 69) hx hb dX5_multiply_63 (by decide) (fun hc => ?_) (fun hc => ?_)
      · have hf := if_f hc hf
        refine lv_aload_n hx hb dX5_multiply_69 rfl (lv_at hl 1 rfl) ?_
        refine va_get (D := G.1) (ci := 5) (v := .ref q0_parts) (C := RX5) (T := TX5) (N := 7) hx hb hts nX5_multiply_X5 hown hG.1 hP 0 rfl rfl 6 (by decide) (hts _ mX5_multiply_3) (fun _ h9 => h9) rfl dX5_multiply_70 ?_
        obtain ⟨r7, hr7, hf⟩ := bd_use hf
        refine cl_V (wn := (wdX5_multiply G q0 q0_first q0_first_row q0_second q0_third q0_list q0_page q0_page_cell q0_page_top q0_single q0_single_grid q0_single_grid_cell q0_single_grid_top q0_single_code q0_single_way q0_parts q0_parts_counts q0_parts_counts_cell q0_parts_counts_top q0_parts_numbers r1.2 k0_page_cell r3 r2.1 r4 r2.2.2.1 r2.2.2.2.1 r2.2.2.2.2 k0_parts_counts_cell r7)) (st1 := [.ref q0_parts_counts]) C hP hD hS (tX3_lendCells l G q0_parts q0_parts_counts q0_parts_numbers k0_parts_known r7 hr7) (cwV 0 hts gX5_multiply_X3_lendCells rfl rfl rfl (by decide +kernel) ⟨Nat.le_of_ble_eq_true rfl, Nat.le_of_ble_eq_true rfl⟩) [12] [0, 1, 2, 3, 4, 5, 6, 7, 8, 9, 10, 11, 13, 14] [0, 1, 2, 3, 4, 5, 6, 7, 8, 9, 10, 11, 14, 12, 13] rfl rfl rfl rfl (by decide) rfl rfl (ci := 3) (q0 := 12) rfl rfl rfl rfl hl.1 rfl rfl (Nat.le_of_ble_eq_true rfl) dX5_multiply_73 (fun H locs hP hD hS => ?_)
        refine lv_astore_n (lv' := [(3, .ref q0_parts_counts), (2, .int r1.1), (0, .ref q0), (1, .int p1)]) hx hb dX5_multiply_76 rfl hl (by decide) rfl (fun ls hl => ?_)
        refine lv_aload_n hx hb dX5_multiply_77 rfl (lv_at hl 0 rfl) ?_
        refine lv_aload_n hx hb dX5_multiply_78 rfl (lv_at hl 2 rfl) ?_
        refine va_get (D := G.1) (ci := 5) (v := .ref q0_page) (C := RX5) (T := TX5) (N := 7) hx hb hts nX5_multiply_X5 hown hG.1 hP 0 rfl rfl 4 (by decide) (hts _ mX5_multiply_1) (fun _ h9 => h9) rfl dX5_multiply_79 ?_
        refine lv_aload_n hx hb dX5_multiply_82 rfl (lv_at hl 2 rfl) ?_
        refine va_get (D := G.1) (ci := 5) (v := .ref q0_single) (C := RX5) (T := TX5) (N := 7) hx hb hts nX5_multiply_X5 hown hG.1 hP 0 rfl rfl 5 (by decide) (hts _ mX5_multiply_0) (fun _ h9 => h9) rfl dX5_multiply_83 ?_
        refine va_get (D := G.1) (ci := 4) (v := .ref q0_single_grid) (C := RX4) (T := TX4) (N := 4) hx hb hts nX5_multiply_X4 hown hG.1 hP 6 rfl rfl 0 (by decide) (hts _ mX5_multiply_2) (fun _ h9 => h9) rfl dX5_multiply_86 ?_
        obtain ⟨r8, hr8, hf⟩ := bd_use hf
        refine cl_V (wn := (wdX5_multiply G q0 q0_first q0_first_row q0_second q0_third q0_list q0_page q0_page_cell q0_page_top q0_single q0_single_grid q0_single_grid_cell q0_single_grid_top q0_single_code q0_single_way q0_parts q0_parts_counts q0_parts_counts_cell q0_parts_counts_top q0_parts_numbers r1.2 k0_page_cell r3 r2.1 r4 r2.2.2.1 r2.2.2.2.1 r2.2.2.2.2 r8 r7)) (st1 := []) C hP hD hS (tX2_becomeProduct l G q0_parts_counts q0_parts_counts_cell q0_parts_counts_top q0_page q0_page_cell q0_page_top q0_single_grid q0_single_grid_cell q0_single_grid_top k0_parts_counts_cell k0_page_cell r2.1 r8 hr8) (cwV 2 hts gX5_multiply_X2_becomeProduct rfl rfl rfl (by decide +kernel) ⟨Nat.le_of_ble_eq_true rfl, Nat.le_of_ble_eq_true rfl⟩) [13, 14, 3, 4, 7, 8] [0, 1, 2, 5, 6, 9, 10, 11, 12] [0, 1, 2, 11, 12, 3, 4, 13, 14, 5, 6, 7, 8, 9, 10] rfl rfl rfl rfl (by decide) rfl rfl (ci := 2) (q0 := 13) rfl rfl rfl rfl hl.1 rfl rfl (Nat.le_of_ble_eq_true rfl) dX5_multiply_89 (fun H locs hP hD hS => ?_)
        refine lv_aload_n hx hb dX5_multiply_92 rfl (lv_at hl 2 rfl) ?_
        refine lv_aload_n hx hb dX5_multiply_93 rfl (lv_at hl 0 rfl) ?_
        obtain ⟨r9, hr9, hf⟩ := bd_use hf
        refine cl_V (wn := (wdX5_multiply G q0 q0_first q0_first_row q0_second q0_third q0_list q0_page q0_page_cell q0_page_top q0_single q0_single_grid q0_single_grid_cell q0_single_grid_top q0_single_code q0_single_way q0_parts q0_parts_counts q0_parts_counts_cell q0_parts_counts_top q0_parts_numbers r1.2 r9.2 r3 r2.1 r4 r2.2.2.1 r2.2.2.2.1 r2.2.2.2.2 r8 r7)) (st1 := [.int r9.1]) C hP hD hS (tX5_takeDraft l G q0 q0_first q0_second q0_third q0_list q0_page q0_page_cell q0_page_top q0_single q0_parts q0_parts_counts q0_parts_counts_cell q0_parts_counts_top k0_page_cell r8 r9 hr9) (cwV 1 hts gX5_multiply_X5_takeDraft rfl rfl rfl (by decide +kernel) ⟨Nat.le_of_ble_eq_true rfl, Nat.le_of_ble_eq_true rfl⟩) [0, 3, 4, 13, 14] [1, 2, 5, 6, 7, 8, 9, 10, 11, 12] [10, 0, 1, 11, 12, 2, 3, 4, 5, 6, 7, 8, 9, 13, 14] rfl rfl rfl rfl (by decide) rfl rfl (ci := 5) (q0 := 0) rfl rfl rfl rfl hl.1 rfl rfl (Nat.le_of_ble_eq_true rfl) dX5_multiply_94 (fun H locs hP hD hS => ?_)
        cases hf
        exact rt_i C hP hD hS dX5_multiply_97
      · have hf := if_t hc hf
        refine lv_bipush (v := (-5 : Int32)) hx hb dX5_multiply_66 (by decide) ?_
        cases hf
        exact rt_i C hP hD hS dX5_multiply_68
    · have hf := if_t hc hf
      refine lv_iconst (v := (0 : Int32)) hx hb dX5_multiply_47 (by decide) ?_
      cases hf
      exact rt_i C hP hD hS dX5_multiply_48
  · have hf := if_f hc hf
    refine lv_iload_n hx hb dX5_multiply_10 rfl (lv_at hl 0 rfl) ?_
    cases hf
    exact rt_i C hP hD hS dX5_multiply_11
