abbrev wdX5_shape (G : GX) (q0 : Nat) (q0_first : Nat) (q0_first_row : Nat) (q0_second : Nat) (q0_third : Nat) (q0_list : Nat) (q0_page : Nat) (q0_single : Nat) (q0_parts : Nat) (k0_first_row : Nat → Int32) : va_W := [(q0, .inr (5, [.ref q0_first, .ref q0_second, .ref q0_third, .ref q0_list, .ref q0_page, .ref q0_single, .ref q0_parts])), (q0_first, .inr (1, [.ref q0_first_row])), (q0_first_row, .inl (G.2.1, 10, .inl k0_first_row))]
abbrev rmX5_shape : Room := { frames := 2, cells := 0, slots := 0, locals := 47 }
abbrev glX5_shape (p : Program) (l : Launch) (e : Env) (s : State) (m : MethodId) (args : Array Value) (below : List Frame) (meth : Method) (c : Code) (G : GX) (A : Nat → Prop) (q0 : Nat) (q0_first : Nat) (q0_first_row : Nat) (q0_second : Nat) (q0_third : Nat) (q0_list : Nat) (q0_page : Nat) (q0_single : Nat) (q0_parts : Nat) (res : Int32 × (Nat → Int32)) (H : Heap) (locs : List Loc) (pc : Nat) (ls : Array Slot) (st : List Value) : Prop := W p l e rmX5_shape s m args below meth c H locs 0 0 (MQ below (ctQ G A (wdX5_shape G q0 q0_first q0_first_row q0_second q0_third q0_list q0_page q0_single q0_parts res.2) (some (.int res.1))) args s 0 0 A) (F0 m pc ls st)
set_option maxRecDepth 20000 in
theorem mX5_shape_0 : Cond.fieldLink RX5 12 "SchubertDesk" "first" "LSchubertDesk$Digits;" ∈ wsX5_shape := by decide +kernel
set_option maxRecDepth 20000 in
theorem nX5_shape_X5 : ∀ w ∈ u_ws RX5 TX5 7, w ∈ wsX5_shape := by decide +kernel
set_option maxHeartbeats 4000000 in
set_option maxRecDepth 100000 in
theorem tX5_shape (l : Launch) (G : GX) (q0 : Nat) (q0_first : Nat) (q0_first_row : Nat) (q0_second : Nat) (q0_third : Nat) (q0_list : Nat) (q0_page : Nat) (q0_single : Nat) (q0_parts : Nat) (k0_first_row : Nat → Int32) (p1 : Int32) (p2 : Int32) (res : Int32 × (Nat → Int32)) (hf : fX5_shape k0_first_row p1 p2 = some res) : Ct l yX5_shape wsX5_shape rmX5_shape G [.ref q0, .int p1, .int p2] (wdX5_shape G q0 q0_first q0_first_row q0_second q0_third q0_list q0_page q0_single q0_parts k0_first_row) (wdX5_shape G q0 q0_first q0_first_row q0_second q0_third q0_list q0_page q0_single q0_parts res.2) (some (.int res.1)) := by
  refine Ct.of (cc := cX5_shape) (nL := 5) (ret := (some .int)) (by decide) rfl (Nat.le_of_ble_eq_true rfl) rfl ?_
  intro p e s m below meth c A ls C hP hD hl
  obtain ⟨hx, hb, hml, hown, hts, hr, hlocks, hA, hG⟩ := id C
  have hS : va_S A s.heap s.heap [] := va_S.rf
  unfold fX5_shape at hf
  refine lv_aload_n hx hb dX5_shape_0 rfl (lv_at hl 0 rfl) ?_
  refine va_get (D := G.1) (ci := 5) (v := .ref q0_first) (C := RX5) (T := TX5) (N := 7) hx hb hts nX5_shape_X5 hown hG.1 hP 0 rfl rfl 0 (by decide) (hts _ mX5_shape_0) (fun _ h9 => h9) rfl dX5_shape_1 ?_
  refine lv_iload_n hx hb dX5_shape_4 rfl (lv_at hl 1 rfl) ?_
  obtain ⟨r1, hr1, hf⟩ := bd_use hf
  refine cl_V (wn := (wdX5_shape G q0 q0_first q0_first_row q0_second q0_third q0_list q0_page q0_single q0_parts r1.2)) (st1 := [.int r1.1]) C hP hD hS (tX1_read l G q0_first q0_first_row k0_first_row p1 r1 hr1) (cwV 1 hts gX5_shape_X1_read rfl rfl rfl (by decide +kernel) ⟨Nat.le_of_ble_eq_true rfl, Nat.le_of_ble_eq_true rfl⟩) [1, 2] [0] [0, 1, 2] rfl rfl rfl rfl (by decide) rfl rfl (ci := 1) (q0 := 1) rfl rfl rfl rfl hl.1 rfl rfl (Nat.le_of_ble_eq_true rfl) dX5_shape_5 (fun H locs hP hD hS => ?_)
  refine lv_if_eq (tgt := 16) hx hb dX5_shape_8 (by decide) (fun hc => ?_) (fun hc => ?_)
  · have hf := if_t hc hf
    refine lv_bipush (v := (-2 : Int32)) hx hb dX5_shape_16 (by decide) ?_
    cases hf
    exact rt_i C hP hD hS dX5_shape_18
  · have hf := if_f hc hf
    refine lv_iload_n hx hb dX5_shape_11 rfl (lv_at hl 2 rfl) ?_
    refine lv_iconst (v := (1 : Int32)) hx hb dX5_shape_12 (by decide) ?_
    refine lv_icmp_ge (tgt := 19) hx hb dX5_shape_13 (by decide) (fun hc => ?_) (fun hc => ?_)
    · have hf := if_t hc hf
      refine lv_aload_n hx hb dX5_shape_19 rfl (lv_at hl 0 rfl) ?_
      refine va_get (D := G.1) (ci := 5) (v := .ref q0_first) (C := RX5) (T := TX5) (N := 7) hx hb hts nX5_shape_X5 hown hG.1 hP 0 rfl rfl 0 (by decide) (hts _ mX5_shape_0) (fun _ h9 => h9) rfl dX5_shape_20 ?_
      obtain ⟨r2, hr2, hf⟩ := bd_use hf
      refine cl_V (wn := (wdX5_shape G q0 q0_first q0_first_row q0_second q0_third q0_list q0_page q0_single q0_parts r1.2)) (st1 := [.int r2]) C hP hD hS (tX1_descentSet l G q0_first q0_first_row r1.2 r2 hr2) (cwV 0 hts gX5_shape_X1_descentSet rfl rfl rfl (by decide +kernel) ⟨Nat.le_of_ble_eq_true rfl, Nat.le_of_ble_eq_true rfl⟩) [1, 2] [0] [0, 1, 2] rfl rfl rfl rfl (by decide) rfl rfl (ci := 1) (q0 := 1) rfl rfl rfl rfl hl.1 rfl rfl (Nat.le_of_ble_eq_true rfl) dX5_shape_23 (fun H locs hP hD hS => ?_)
      obtain ⟨r3, hr3, hf⟩ := bd_use hf
      refine cl_S (wn := (wdX5_shape G q0 q0_first q0_first_row q0_second q0_third q0_list q0_page q0_single q0_parts r1.2)) (st1 := [.int r3]) C hP hD hS (tJ6_bitCount_0f7a4 l G r2 r3 hr3) (va_cwS 1 hts gX5_shape_J6_bitCount_0f7a4 rfl rfl rfl (by decide +kernel) ⟨Nat.le_of_ble_eq_true rfl, Nat.le_of_ble_eq_true rfl⟩) [] [0, 1, 2] [0, 1, 2] rfl rfl rfl rfl (by decide) rfl rfl rfl hl.1 rfl rfl (Nat.le_of_ble_eq_true rfl) dX5_shape_26 (fun H locs hP hD hS => ?_)
      refine lv_iconst (v := (1 : Int32)) hx hb dX5_shape_29 (by decide) ?_
      refine lv_icmp_eq (tgt := 36) hx hb dX5_shape_30 (by decide) (fun hc => ?_) (fun hc => ?_)
      · have hf := if_t hc hf
        refine lv_aload_n hx hb dX5_shape_36 rfl (lv_at hl 0 rfl) ?_
        refine va_get (D := G.1) (ci := 5) (v := .ref q0_first) (C := RX5) (T := TX5) (N := 7) hx hb hts nX5_shape_X5 hown hG.1 hP 0 rfl rfl 0 (by decide) (hts _ mX5_shape_0) (fun _ h9 => h9) rfl dX5_shape_37 ?_
        obtain ⟨r4, hr4, hf⟩ := bd_use hf
        refine cl_V (wn := (wdX5_shape G q0 q0_first q0_first_row q0_second q0_third q0_list q0_page q0_single q0_parts r1.2)) (st1 := [.int r4]) C hP hD hS (tX1_lastDescent l G q0_first q0_first_row r1.2 r4 hr4) (cwV 0 hts gX5_shape_X1_lastDescent rfl rfl rfl (by decide +kernel) ⟨Nat.le_of_ble_eq_true rfl, Nat.le_of_ble_eq_true rfl⟩) [1, 2] [0] [0, 1, 2] rfl rfl rfl rfl (by decide) rfl rfl (ci := 1) (q0 := 1) rfl rfl rfl rfl hl.1 rfl rfl (Nat.le_of_ble_eq_true rfl) dX5_shape_40 (fun H locs hP hD hS => ?_)
        refine lv_istore_n (lv' := [(3, .int r4), (0, .ref q0), (1, .int p1), (2, .int p2)]) hx hb dX5_shape_43 rfl hl (by decide) rfl (fun ls hl => ?_)
        refine lv_iload_n hx hb dX5_shape_44 rfl (lv_at hl 3 rfl) ?_
        refine lv_iload_n hx hb dX5_shape_45 rfl (lv_at hl 0 rfl) ?_
        refine lv_icmp_le (tgt := 52) hx hb dX5_shape_46 (by decide) (fun hc => ?_) (fun hc => ?_)
        · have hf := if_t hc hf
          refine lv_iload_n hx hb dX5_shape_52 rfl (lv_at hl 0 rfl) ?_
          refine lv_iconst (v := (1 : Int32)) hx hb dX5_shape_53 (by decide) ?_
          refine lv_iadd hx hb dX5_shape_54 ?_
          refine lv_iload_n hx hb dX5_shape_55 rfl (lv_at hl 3 rfl) ?_
          refine lv_isub hx hb dX5_shape_56 ?_
          refine lv_topi (fun y5 ey5 => ?_)
          have hf := nm_use ey5 hf
          refine lv_istore (lv' := [(4, .int y5), (3, .int r4), (0, .ref q0), (1, .int p1), (2, .int p2)]) hx hb dX5_shape_57 hl (by decide) rfl (fun ls hl => ?_)
          refine lv_aload_n hx hb dX5_shape_59 rfl (lv_at hl 2 rfl) ?_
          refine va_get (D := G.1) (ci := 5) (v := .ref q0_first) (C := RX5) (T := TX5) (N := 7) hx hb hts nX5_shape_X5 hown hG.1 hP 0 rfl rfl 0 (by decide) (hts _ mX5_shape_0) (fun _ h9 => h9) rfl dX5_shape_60 ?_
          refine lv_iload hx hb dX5_shape_63 (lv_at hl 0 rfl) ?_
          obtain ⟨r6, hr6, hf⟩ := bd_use hf
          refine cl_V (wn := (wdX5_shape G q0 q0_first q0_first_row q0_second q0_third q0_list q0_page q0_single q0_parts r1.2)) (st1 := [.int r6]) C hP hD hS (tX1_digit l G q0_first q0_first_row r1.2 y5 r6 hr6) (cwV 1 hts gX5_shape_X1_digit rfl rfl rfl (by decide +kernel) ⟨Nat.le_of_ble_eq_true rfl, Nat.le_of_ble_eq_true rfl⟩) [1, 2] [0] [0, 1, 2] rfl rfl rfl rfl (by decide) rfl rfl (ci := 1) (q0 := 1) rfl rfl rfl rfl hl.1 rfl rfl (Nat.le_of_ble_eq_true rfl) dX5_shape_65 (fun H locs hP hD hS => ?_)
          refine lv_iload hx hb dX5_shape_68 (lv_at hl 0 rfl) ?_
          refine lv_isub hx hb dX5_shape_70 ?_
          cases hf
          exact rt_i C hP hD hS dX5_shape_71
        · have hf := if_f hc hf
          refine lv_bipush (v := (-9 : Int32)) hx hb dX5_shape_49 (by decide) ?_
          cases hf
          exact rt_i C hP hD hS dX5_shape_51
      · have hf := if_f hc hf
        refine lv_bipush (v := (-3 : Int32)) hx hb dX5_shape_33 (by decide) ?_
        cases hf
        exact rt_i C hP hD hS dX5_shape_35
    · have hf := if_f hc hf
      refine lv_bipush (v := (-2 : Int32)) hx hb dX5_shape_16 (by decide) ?_
      cases hf
      exact rt_i C hP hD hS dX5_shape_18
abbrev wdX5_avoids (G : GX) (q0 : Nat) (q0_first : Nat) (q0_first_row : Nat) (q0_second : Nat) (q0_third : Nat) (q0_list : Nat) (q0_page : Nat) (q0_single : Nat) (q0_parts : Nat) (k0_first_row : Nat → Int32) : va_W := [(q0, .inr (5, [.ref q0_first, .ref q0_second, .ref q0_third, .ref q0_list, .ref q0_page, .ref q0_single, .ref q0_parts])), (q0_first, .inr (1, [.ref q0_first_row])), (q0_first_row, .inl (G.2.1, 10, .inl k0_first_row))]
abbrev rmX5_avoids : Room := { frames := 3, cells := 0, slots := 0, locals := 107 }
abbrev glX5_avoids (p : Program) (l : Launch) (e : Env) (s : State) (m : MethodId) (args : Array Value) (below : List Frame) (meth : Method) (c : Code) (G : GX) (A : Nat → Prop) (q0 : Nat) (q0_first : Nat) (q0_first_row : Nat) (q0_second : Nat) (q0_third : Nat) (q0_list : Nat) (q0_page : Nat) (q0_single : Nat) (q0_parts : Nat) (res : Int32 × (Nat → Int32)) (H : Heap) (locs : List Loc) (pc : Nat) (ls : Array Slot) (st : List Value) : Prop := W p l e rmX5_avoids s m args below meth c H locs 0 0 (MQ below (ctQ G A (wdX5_avoids G q0 q0_first q0_first_row q0_second q0_third q0_list q0_page q0_single q0_parts res.2) (some (.int res.1))) args s 0 0 A) (F0 m pc ls st)
set_option maxRecDepth 20000 in
theorem mX5_avoids_0 : Cond.fieldLink RX5 12 "SchubertDesk" "first" "LSchubertDesk$Digits;" ∈ wsX5_avoids := by decide +kernel
set_option maxRecDepth 20000 in
theorem nX5_avoids_X5 : ∀ w ∈ u_ws RX5 TX5 7, w ∈ wsX5_avoids := by decide +kernel
set_option maxHeartbeats 4000000 in
set_option maxRecDepth 100000 in
theorem wX5_avoids_46 {p : Program} {l : Launch} {e : Env} {s : State} {m : MethodId} {args : Array Value} {below : List Frame} {meth : Method} {c : Code} {G : GX} {A : Nat → Prop} (C : Cx p s m args meth c cX5_avoids 4 (some .int) wsX5_avoids RX5 G A) (q0 : Nat) (q0_first : Nat) (q0_first_row : Nat) (q0_second : Nat) (q0_third : Nat) (q0_list : Nat) (q0_page : Nat) (q0_single : Nat) (q0_parts : Nat) (p1 : Int32) (p2 : Int32) (res : Int32 × (Nat → Int32)) : ∀ (k0_first_row : Nat → Int32) (s0 : Int32) (H : Heap) (locs : List Loc) (ls : Array Slot), fX5_avoids_b46 p1 p2 k0_first_row s0 = some res → va_P G.1 vwCl (wdX5_avoids G q0 q0_first q0_first_row q0_second q0_third q0_list q0_page q0_single q0_parts k0_first_row) H → va_D A (wdX5_avoids G q0 q0_first q0_first_row q0_second q0_third q0_list q0_page q0_single q0_parts k0_first_row) → va_S A s.heap H locs → lv_has ls 4 [] → glX5_avoids p l e s m args below meth c G A q0 q0_first q0_first_row q0_second q0_third q0_list q0_page q0_single q0_parts res H locs 46 ls [.int s0] := by
  obtain ⟨hx, hb, hml, hown, hts, hr, hlocks, hA, hG⟩ := id C
  intro k0_first_row s0 H locs ls hf hP hD hS hl
  unfold fX5_avoids_b46 at hf
  refine lv_istore_n (lv' := [(3, .int s0)]) hx hb dX5_avoids_46 rfl hl (by decide) rfl (fun ls hl => ?_)
  refine lv_iload_n hx hb dX5_avoids_47 rfl (lv_at hl 0 rfl) ?_
  refine lv_if_eq (tgt := 55) hx hb dX5_avoids_48 (by decide) (fun hc => ?_) (fun hc => ?_)
  · have hf := if_t hc hf
    refine lv_iconst (v := (1 : Int32)) hx hb dX5_avoids_55 (by decide) ?_
    cases hf
    exact rt_i C hP hD hS dX5_avoids_56
  · have hf := if_f hc hf
    refine lv_iconst (v := (0 : Int32)) hx hb dX5_avoids_51 (by decide) ?_
    refine lv_goto (tgt := 56) hx hb dX5_avoids_52 (by decide) ?_
    cases hf
    exact rt_i C hP hD hS dX5_avoids_56
set_option maxHeartbeats 4000000 in
set_option maxRecDepth 100000 in
theorem tX5_avoids (l : Launch) (G : GX) (q0 : Nat) (q0_first : Nat) (q0_first_row : Nat) (q0_second : Nat) (q0_third : Nat) (q0_list : Nat) (q0_page : Nat) (q0_single : Nat) (q0_parts : Nat) (k0_first_row : Nat → Int32) (p1 : Int32) (p2 : Int32) (res : Int32 × (Nat → Int32)) (hf : fX5_avoids k0_first_row p1 p2 = some res) : Ct l yX5_avoids wsX5_avoids rmX5_avoids G [.ref q0, .int p1, .int p2] (wdX5_avoids G q0 q0_first q0_first_row q0_second q0_third q0_list q0_page q0_single q0_parts k0_first_row) (wdX5_avoids G q0 q0_first q0_first_row q0_second q0_third q0_list q0_page q0_single q0_parts res.2) (some (.int res.1)) := by
  refine Ct.of (cc := cX5_avoids) (nL := 4) (ret := (some .int)) (by decide) rfl (Nat.le_of_ble_eq_true rfl) rfl ?_
  intro p e s m below meth c A ls C hP hD hl
  obtain ⟨hx, hb, hml, hown, hts, hr, hlocks, hA, hG⟩ := id C
  have hS : va_S A s.heap s.heap [] := va_S.rf
  unfold fX5_avoids at hf
  refine lv_aload_n hx hb dX5_avoids_0 rfl (lv_at hl 0 rfl) ?_
  refine va_get (D := G.1) (ci := 5) (v := .ref q0_first) (C := RX5) (T := TX5) (N := 7) hx hb hts nX5_avoids_X5 hown hG.1 hP 0 rfl rfl 0 (by decide) (hts _ mX5_avoids_0) (fun _ h9 => h9) rfl dX5_avoids_1 ?_
  refine lv_iload_n hx hb dX5_avoids_4 rfl (lv_at hl 1 rfl) ?_
  obtain ⟨r1, hr1, hf⟩ := bd_use hf
  refine cl_V (wn := (wdX5_avoids G q0 q0_first q0_first_row q0_second q0_third q0_list q0_page q0_single q0_parts r1.2)) (st1 := [.int r1.1]) C hP hD hS (tX1_read l G q0_first q0_first_row k0_first_row p1 r1 hr1) (cwV 1 hts gX5_avoids_X1_read rfl rfl rfl (by decide +kernel) ⟨Nat.le_of_ble_eq_true rfl, Nat.le_of_ble_eq_true rfl⟩) [1, 2] [0] [0, 1, 2] rfl rfl rfl rfl (by decide) rfl rfl (ci := 1) (q0 := 1) rfl rfl rfl rfl hl.1 rfl rfl (Nat.le_of_ble_eq_true rfl) dX5_avoids_5 (fun H locs hP hD hS => ?_)
  refine lv_if_eq (tgt := 21) hx hb dX5_avoids_8 (by decide) (fun hc => ?_) (fun hc => ?_)
  · have hf := if_t hc hf
    refine lv_bipush (v := (-2 : Int32)) hx hb dX5_avoids_21 (by decide) ?_
    cases hf
    exact rt_i C hP hD hS dX5_avoids_23
  · have hf := if_f hc hf
    refine lv_iload_n hx hb dX5_avoids_11 rfl (lv_at hl 2 rfl) ?_
    refine lv_iconst (v := (1 : Int32)) hx hb dX5_avoids_12 (by decide) ?_
    refine lv_icmp_lt (tgt := 21) hx hb dX5_avoids_13 (by decide) (fun hc => ?_) (fun hc => ?_)
    · have hf := if_t hc hf
      refine lv_bipush (v := (-2 : Int32)) hx hb dX5_avoids_21 (by decide) ?_
      cases hf
      exact rt_i C hP hD hS dX5_avoids_23
    · have hf := if_f hc hf
      refine lv_iload_n hx hb dX5_avoids_16 rfl (lv_at hl 2 rfl) ?_
      refine lv_iconst (v := (2 : Int32)) hx hb dX5_avoids_17 (by decide) ?_
      refine lv_icmp_le (tgt := 24) hx hb dX5_avoids_18 (by decide) (fun hc => ?_) (fun hc => ?_)
      · have hf := if_t hc hf
        refine lv_iload_n hx hb dX5_avoids_24 rfl (lv_at hl 2 rfl) ?_
        refine lv_iconst (v := (1 : Int32)) hx hb dX5_avoids_25 (by decide) ?_
        refine lv_icmp_ne (tgt := 39) hx hb dX5_avoids_26 (by decide) (fun hc => ?_) (fun hc => ?_)
        · have hf := if_f hc hf
          refine lv_aload_n hx hb dX5_avoids_39 rfl (lv_at hl 0 rfl) ?_
          refine va_get (D := G.1) (ci := 5) (v := .ref q0_first) (C := RX5) (T := TX5) (N := 7) hx hb hts nX5_avoids_X5 hown hG.1 hP 0 rfl rfl 0 (by decide) (hts _ mX5_avoids_0) (fun _ h9 => h9) rfl dX5_avoids_40 ?_
          obtain ⟨r2, hr2, hf⟩ := bd_use hf
          refine cl_V (wn := (wdX5_avoids G q0 q0_first q0_first_row q0_second q0_third q0_list q0_page q0_single q0_parts r1.2)) (st1 := [.int r2]) C hP hD hS (tX1_hasTwoOneFourThree l G q0_first q0_first_row r1.2 r2 hr2) (cwV 0 hts gX5_avoids_X1_hasTwoOneFourThree rfl rfl rfl (by decide +kernel) ⟨Nat.le_of_ble_eq_true rfl, Nat.le_of_ble_eq_true rfl⟩) [1, 2] [0] [0, 1, 2] rfl rfl rfl rfl (by decide) rfl rfl (ci := 1) (q0 := 1) rfl rfl rfl rfl hl.1 rfl rfl (Nat.le_of_ble_eq_true rfl) dX5_avoids_43 (fun H locs hP hD hS => ?_)
          exact wX5_avoids_46 C q0 q0_first q0_first_row q0_second q0_third q0_list q0_page q0_single q0_parts p1 p2 res r1.2 r2 _ _ ls hf hP hD hS (lv_sub hl [] rfl)
        · have hf := if_t hc hf
          refine lv_aload_n hx hb dX5_avoids_29 rfl (lv_at hl 0 rfl) ?_
          refine va_get (D := G.1) (ci := 5) (v := .ref q0_first) (C := RX5) (T := TX5) (N := 7) hx hb hts nX5_avoids_X5 hown hG.1 hP 0 rfl rfl 0 (by decide) (hts _ mX5_avoids_0) (fun _ h9 => h9) rfl dX5_avoids_30 ?_
          obtain ⟨r3, hr3, hf⟩ := bd_use hf
          refine cl_V (wn := (wdX5_avoids G q0 q0_first q0_first_row q0_second q0_third q0_list q0_page q0_single q0_parts r1.2)) (st1 := [.int r3]) C hP hD hS (tX1_hasLeastGreatestMiddle l G q0_first q0_first_row r1.2 r3 hr3) (cwV 0 hts gX5_avoids_X1_hasLeastGreatestMiddle rfl rfl rfl (by decide +kernel) ⟨Nat.le_of_ble_eq_true rfl, Nat.le_of_ble_eq_true rfl⟩) [1, 2] [0] [0, 1, 2] rfl rfl rfl rfl (by decide) rfl rfl (ci := 1) (q0 := 1) rfl rfl rfl rfl hl.1 rfl rfl (Nat.le_of_ble_eq_true rfl) dX5_avoids_33 (fun H locs hP hD hS => ?_)
          refine lv_goto (tgt := 46) hx hb dX5_avoids_36 (by decide) ?_
          exact wX5_avoids_46 C q0 q0_first q0_first_row q0_second q0_third q0_list q0_page q0_single q0_parts p1 p2 res r1.2 r3 _ _ ls hf hP hD hS (lv_sub hl [] rfl)
      · have hf := if_f hc hf
        refine lv_bipush (v := (-2 : Int32)) hx hb dX5_avoids_21 (by decide) ?_
        cases hf
        exact rt_i C hP hD hS dX5_avoids_23
abbrev wdX6_within (G : GX) : va_W := []
abbrev rmX6_within : Room := { frames := 0, cells := 0, slots := 0, locals := 0 }
abbrev glX6_within (p : Program) (l : Launch) (e : Env) (s : State) (m : MethodId) (args : Array Value) (below : List Frame) (meth : Method) (c : Code) (G : GX) (A : Nat → Prop) (res : Int32) (H : Heap) (locs : List Loc) (pc : Nat) (ls : Array Slot) (st : List Value) : Prop := W p l e rmX6_within s m args below meth c H locs 0 0 (MQ below (ctQ G A (wdX6_within G) (some (.int res))) args s 0 0 A) (F0 m pc ls st)
set_option maxHeartbeats 4000000 in
set_option maxRecDepth 100000 in
theorem tX6_within (l : Launch) (G : GX) (p0 : Int32) (p1 : Int32) (p2 : Int32) (res : Int32) (hf : fX6_within p0 p1 p2 = some res) : Ct l yX6_within wsX6_within rmX6_within G [.int p0, .int p1, .int p2] (wdX6_within G) (wdX6_within G) (some (.int res)) := by
  refine Ct.of (cc := cX6_within) (nL := 3) (ret := (some .boolean)) (by decide) rfl (Nat.le_of_ble_eq_true rfl) rfl ?_
  intro p e s m below meth c A ls C hP hD hl
  obtain ⟨hx, hb, hml, hown, hts, hr, hlocks, hA, hG⟩ := id C
  have hS : va_S A s.heap s.heap [] := va_S.rf
  unfold fX6_within at hf
  refine lv_iload_n hx hb dX6_within_0 rfl (lv_at hl 0 rfl) ?_
  refine lv_iload_n hx hb dX6_within_1 rfl (lv_at hl 1 rfl) ?_
  refine lv_icmp_lt (tgt := 14) hx hb dX6_within_2 (by decide) (fun hc => ?_) (fun hc => ?_)
  · have hf := if_t hc hf
    refine lv_iconst (v := (0 : Int32)) hx hb dX6_within_14 (by decide) ?_
    cases hf
    exact rt_z C (Or.inl rfl) hP hD hS dX6_within_15
  · have hf := if_f hc hf
    refine lv_iload_n hx hb dX6_within_5 rfl (lv_at hl 0 rfl) ?_
    refine lv_iload_n hx hb dX6_within_6 rfl (lv_at hl 2 rfl) ?_
    refine lv_icmp_gt (tgt := 14) hx hb dX6_within_7 (by decide) (fun hc => ?_) (fun hc => ?_)
    · have hf := if_t hc hf
      refine lv_iconst (v := (0 : Int32)) hx hb dX6_within_14 (by decide) ?_
      cases hf
      exact rt_z C (Or.inl rfl) hP hD hS dX6_within_15
    · have hf := if_f hc hf
      refine lv_iconst (v := (1 : Int32)) hx hb dX6_within_10 (by decide) ?_
      refine lv_goto (tgt := 15) hx hb dX6_within_11 (by decide) ?_
      cases hf
      exact rt_z C (Or.inr rfl) hP hD hS dX6_within_15
abbrev wdX6_lays (G : GX) (q1 : Nat) (k1 : Nat → Int32) : va_W := [(q1, .inl (G.2.1, 10, .inl k1))]
abbrev rmX6_lays : Room := { frames := 1, cells := 0, slots := 0, locals := 22 }
abbrev glX6_lays (p : Program) (l : Launch) (e : Env) (s : State) (m : MethodId) (args : Array Value) (below : List Frame) (meth : Method) (c : Code) (G : GX) (A : Nat → Prop) (q1 : Nat) (res : Int32 × (Nat → Int32)) (H : Heap) (locs : List Loc) (pc : Nat) (ls : Array Slot) (st : List Value) : Prop := W p l e rmX6_lays s m args below meth c H locs 0 0 (MQ below (ctQ G A (wdX6_lays G q1 res.2) (some (.int res.1))) args s 0 0 A) (F0 m pc ls st)
set_option maxHeartbeats 4000000 in
set_option maxRecDepth 100000 in
theorem wX6_lays_121 {p : Program} {l : Launch} {e : Env} {s : State} {m : MethodId} {args : Array Value} {below : List Frame} {meth : Method} {c : Code} {G : GX} {A : Nat → Prop} (C : Cx p s m args meth c cX6_lays 7 (some .boolean) wsX6_lays RX6 G A) (q1 : Nat) (p0 : Int32) (res : Int32 × (Nat → Int32)) (n : Nat) : ∀ (k1 : Nat → Int32) (x3 : Int32) (x6 : Int32) (H : Heap) (locs : List Loc) (ls : Array Slot), fX6_lays_L121 p0 n k1 x3 x6 = some res → va_P G.1 vwCl (wdX6_lays G q1 k1) H → va_D A (wdX6_lays G q1 k1) → va_S A s.heap H locs → lv_has ls 7 [(1, .ref q1), (3, .int x3), (6, .int x6)] → glX6_lays p l e s m args below meth c G A q1 res H locs 121 ls [] := by
  obtain ⟨hx, hb, hml, hown, hts, hr, hlocks, hA, hG⟩ := id C
  induction n with
  | zero => intro k1 x3 x6 H locs ls hf hP hD hS hl; cases hf
  | succ n ih =>
    intro k1 x3 x6 H locs ls hf hP hD hS hl
    simp only [fX6_lays_L121] at hf
    refine lv_iload hx hb dX6_lays_121 (lv_at hl 2 rfl) ?_
    refine lv_bipush (v := (9 : Int32)) hx hb dX6_lays_123 (by decide) ?_
    refine lv_icmp_gt (tgt := 140) hx hb dX6_lays_125 (by decide) (fun hc => ?_) (fun hc => ?_)
    · have hf := if_t hc hf
      refine lv_iload_n hx hb dX6_lays_140 rfl (lv_at hl 1 rfl) ?_
      obtain ⟨hz, hf⟩ := bz_use hf
      cases hf
      exact rt_z C hz hP hD hS dX6_lays_141
    · have hf := if_f hc hf
      refine lv_aload_n hx hb dX6_lays_128 rfl (lv_at hl 0 rfl) ?_
      refine lv_iload hx hb dX6_lays_129 (lv_at hl 2 rfl) ?_
      refine lv_iload hx hb dX6_lays_131 (lv_at hl 2 rfl) ?_
      obtain ⟨hin, hf⟩ := pI_use hf
      refine va_iast hx hb hG.1 hP hD hS 0 0 rfl rfl hin dX6_lays_133 (fun H locs hP hD hS => ?_)
      have hP : va_P G.1 vwCl (wdX6_lays G q1 (upd k1 (x6).toNatClampNeg x6)) H := hP
      have hD : va_D A (wdX6_lays G q1 (upd k1 (x6).toNatClampNeg x6)) := hD
      obtain ⟨y2, ey2⟩ : ∃ z : Int32, z = x6 + (1 : Int32) := ⟨_, rfl⟩
      have hf := nm_use ey2 hf
      refine lv_iinc (v := y2) (lv' := [(6, .int y2), (1, .ref q1), (3, .int x3)]) hx hb dX6_lays_134 hl (k := 2) rfl (by rw [ey2]; rfl) (by decide) rfl (fun ls hl => ?_)
      refine lv_goto (tgt := 121) hx hb dX6_lays_137 (by decide) ?_
      exact ih (upd k1 (x6).toNatClampNeg x6) x3 y2 _ _ ls hf hP hD hS (lv_sub hl [1, 2, 0] rfl)
set_option maxHeartbeats 4000000 in
set_option maxRecDepth 100000 in
theorem wX6_lays_98 {p : Program} {l : Launch} {e : Env} {s : State} {m : MethodId} {args : Array Value} {below : List Frame} {meth : Method} {c : Code} {G : GX} {A : Nat → Prop} (C : Cx p s m args meth c cX6_lays 7 (some .boolean) wsX6_lays RX6 G A) (q1 : Nat) (p0 : Int32) (res : Int32 × (Nat → Int32)) (rec44 : (Nat → Int32) → Int32 → Int32 → Int32 → Int32 → Int32 → Option (Int32 × (Nat → Int32))) (hr44 : ∀ (k1 : Nat → Int32) (x2 : Int32) (x3 : Int32) (x4 : Int32) (x5 : Int32) (x6 : Int32) (H : Heap) (locs : List Loc) (ls : Array Slot), rec44 k1 x2 x3 x4 x5 x6 = some res → va_P G.1 vwCl (wdX6_lays G q1 k1) H → va_D A (wdX6_lays G q1 k1) → va_S A s.heap H locs → lv_has ls 7 [(1, .ref q1), (2, .int x2), (3, .int x3), (4, .int x4), (5, .int x5), (6, .int x6)] → glX6_lays p l e s m args below meth c G A q1 res H locs 44 ls []) : ∀ (k1 : Nat → Int32) (x2 : Int32) (x4 : Int32) (x5 : Int32) (x6 : Int32) (s0 : Int32) (H : Heap) (locs : List Loc) (ls : Array Slot), fX6_lays_b98 p0 rec44 k1 x2 x4 x5 x6 s0 = some res → va_P G.1 vwCl (wdX6_lays G q1 k1) H → va_D A (wdX6_lays G q1 k1) → va_S A s.heap H locs → lv_has ls 7 [(1, .ref q1), (2, .int x2), (4, .int x4), (5, .int x5), (6, .int x6)] → glX6_lays p l e s m args below meth c G A q1 res H locs 98 ls [.int s0] := by
  obtain ⟨hx, hb, hml, hown, hts, hr, hlocks, hA, hG⟩ := id C
  intro k1 x2 x4 x5 x6 s0 H locs ls hf hP hD hS hl
  unfold fX6_lays_b98 at hf
  refine lv_istore_n (lv' := [(3, .int s0), (1, .ref q1), (2, .int x2), (4, .int x4), (5, .int x5), (6, .int x6)]) hx hb dX6_lays_98 rfl hl (by decide) rfl (fun ls hl => ?_)
  refine lv_iload hx hb dX6_lays_99 (lv_at hl 3 rfl) ?_
  refine lv_iconst (v := (1 : Int32)) hx hb dX6_lays_101 (by decide) ?_
  refine lv_aload_n hx hb dX6_lays_102 rfl (lv_at hl 1 rfl) ?_
  refine lv_iload hx hb dX6_lays_103 (lv_at hl 5 rfl) ?_
  obtain ⟨hin, hf⟩ := gI_use hf
  refine va_iald hx hb hG.1 hP 0 0 rfl rfl hin dX6_lays_105 ?_
  refine lv_ishl hx hb dX6_lays_106 ?_
  refine lv_ior hx hb dX6_lays_107 ?_
  refine lv_topi (fun y4 ey4 => ?_)
  have hf := nm_use ey4 hf
  refine lv_istore (lv' := [(4, .int y4), (3, .int s0), (1, .ref q1), (2, .int x2), (5, .int x5), (6, .int x6)]) hx hb dX6_lays_108 hl (by decide) rfl (fun ls hl => ?_)
  obtain ⟨y5, ey5⟩ : ∃ z : Int32, z = x6 + (-1 : Int32) := ⟨_, rfl⟩
  have hf := nm_use ey5 hf
  refine lv_iinc (v := y5) (lv' := [(6, .int y5), (4, .int y4), (3, .int s0), (1, .ref q1), (2, .int x2), (5, .int x5)]) hx hb dX6_lays_110 hl (k := 5) rfl (by rw [ey5]; rfl) (by decide) rfl (fun ls hl => ?_)
  refine lv_goto (tgt := 44) hx hb dX6_lays_113 (by decide) ?_
  exact hr44 k1 x2 s0 y4 x5 y5 _ _ ls hf hP hD hS (lv_sub hl [3, 4, 2, 1, 5, 0] rfl)
set_option maxHeartbeats 4000000 in
set_option maxRecDepth 100000 in
theorem wX6_lays_97 {p : Program} {l : Launch} {e : Env} {s : State} {m : MethodId} {args : Array Value} {below : List Frame} {meth : Method} {c : Code} {G : GX} {A : Nat → Prop} (C : Cx p s m args meth c cX6_lays 7 (some .boolean) wsX6_lays RX6 G A) (q1 : Nat) (p0 : Int32) (res : Int32 × (Nat → Int32)) (rec44 : (Nat → Int32) → Int32 → Int32 → Int32 → Int32 → Int32 → Option (Int32 × (Nat → Int32))) (hr44 : ∀ (k1 : Nat → Int32) (x2 : Int32) (x3 : Int32) (x4 : Int32) (x5 : Int32) (x6 : Int32) (H : Heap) (locs : List Loc) (ls : Array Slot), rec44 k1 x2 x3 x4 x5 x6 = some res → va_P G.1 vwCl (wdX6_lays G q1 k1) H → va_D A (wdX6_lays G q1 k1) → va_S A s.heap H locs → lv_has ls 7 [(1, .ref q1), (2, .int x2), (3, .int x3), (4, .int x4), (5, .int x5), (6, .int x6)] → glX6_lays p l e s m args below meth c G A q1 res H locs 44 ls []) : ∀ (k1 : Nat → Int32) (x2 : Int32) (x4 : Int32) (x5 : Int32) (x6 : Int32) (H : Heap) (locs : List Loc) (ls : Array Slot), fX6_lays_b97 p0 rec44 k1 x2 x4 x5 x6 = some res → va_P G.1 vwCl (wdX6_lays G q1 k1) H → va_D A (wdX6_lays G q1 k1) → va_S A s.heap H locs → lv_has ls 7 [(1, .ref q1), (2, .int x2), (4, .int x4), (5, .int x5), (6, .int x6)] → glX6_lays p l e s m args below meth c G A q1 res H locs 97 ls [] := by
  obtain ⟨hx, hb, hml, hown, hts, hr, hlocks, hA, hG⟩ := id C
  intro k1 x2 x4 x5 x6 H locs ls hf hP hD hS hl
  unfold fX6_lays_b97 at hf
  refine lv_iconst (v := (0 : Int32)) hx hb dX6_lays_97 (by decide) ?_
  exact wX6_lays_98 C q1 p0 res rec44 hr44 k1 x2 x4 x5 x6 (0 : Int32) _ _ ls hf hP hD hS (lv_sub hl [0, 1, 2, 3, 4] rfl)
set_option maxHeartbeats 4000000 in
set_option maxRecDepth 100000 in
theorem wX6_lays_44 {p : Program} {l : Launch} {e : Env} {s : State} {m : MethodId} {args : Array Value} {below : List Frame} {meth : Method} {c : Code} {G : GX} {A : Nat → Prop} (C : Cx p s m args meth c cX6_lays 7 (some .boolean) wsX6_lays RX6 G A) (q1 : Nat) (p0 : Int32) (res : Int32 × (Nat → Int32)) (n : Nat) : ∀ (k1 : Nat → Int32) (x2 : Int32) (x3 : Int32) (x4 : Int32) (x5 : Int32) (x6 : Int32) (H : Heap) (locs : List Loc) (ls : Array Slot), fX6_lays_L44 p0 n k1 x2 x3 x4 x5 x6 = some res → va_P G.1 vwCl (wdX6_lays G q1 k1) H → va_D A (wdX6_lays G q1 k1) → va_S A s.heap H locs → lv_has ls 7 [(1, .ref q1), (2, .int x2), (3, .int x3), (4, .int x4), (5, .int x5), (6, .int x6)] → glX6_lays p l e s m args below meth c G A q1 res H locs 44 ls [] := by
  obtain ⟨hx, hb, hml, hown, hts, hr, hlocks, hA, hG⟩ := id C
  induction n with
  | zero => intro k1 x2 x3 x4 x5 x6 H locs ls hf hP hD hS hl; cases hf
  | succ n ih =>
    intro k1 x2 x3 x4 x5 x6 H locs ls hf hP hD hS hl
    simp only [fX6_lays_L44] at hf
    refine lv_iload hx hb dX6_lays_44 (lv_at hl 5 rfl) ?_
    refine lv_if_le (tgt := 116) hx hb dX6_lays_46 (by decide) (fun hc => ?_) (fun hc => ?_)
    · have hf := if_t hc hf
      refine lv_iload_n hx hb dX6_lays_116 rfl (lv_at hl 1 rfl) ?_
      refine lv_iconst (v := (1 : Int32)) hx hb dX6_lays_117 (by decide) ?_
      refine lv_iadd hx hb dX6_lays_118 ?_
      refine lv_topi (fun y6 ey6 => ?_)
      have hf := nm_use ey6 hf
      refine lv_istore (lv' := [(6, .int y6), (1, .ref q1), (2, .int x2), (3, .int x3), (4, .int x4), (5, .int x5)]) hx hb dX6_lays_119 hl (by decide) rfl (fun ls hl => ?_)
      exact wX6_lays_121 C q1 p0 res fu k1 x3 y6 _ _ ls hf hP hD hS (lv_sub hl [1, 3, 0] rfl)
    · have hf := if_f hc hf
      refine lv_aload_n hx hb dX6_lays_49 rfl (lv_at hl 0 rfl) ?_
      refine lv_iload hx hb dX6_lays_50 (lv_at hl 5 rfl) ?_
      refine lv_iload hx hb dX6_lays_52 (lv_at hl 4 rfl) ?_
      refine lv_bipush (v := (10 : Int32)) hx hb dX6_lays_54 (by decide) ?_
      refine lv_irem hx hb dX6_lays_56 (by decide) ?_
      obtain ⟨hin, hf⟩ := pI_use hf
      refine va_iast hx hb hG.1 hP hD hS 0 0 rfl rfl hin dX6_lays_57 (fun H locs hP hD hS => ?_)
      have hP : va_P G.1 vwCl (wdX6_lays G q1 (upd k1 (x6).toNatClampNeg (x5 - x5 / (10 : Int32) * (10 : Int32)))) H := hP
      have hD : va_D A (wdX6_lays G q1 (upd k1 (x6).toNatClampNeg (x5 - x5 / (10 : Int32) * (10 : Int32)))) := hD
      refine lv_iload hx hb dX6_lays_58 (lv_at hl 4 rfl) ?_
      refine lv_bipush (v := (10 : Int32)) hx hb dX6_lays_60 (by decide) ?_
      refine lv_idiv hx hb dX6_lays_62 (by decide) ?_
      refine lv_topi (fun y8 ey8 => ?_)
      have hf := nm_use ey8 hf
      refine lv_istore (lv' := [(5, .int y8), (1, .ref q1), (2, .int x2), (3, .int x3), (4, .int x4), (6, .int x6)]) hx hb dX6_lays_63 hl (by decide) rfl (fun ls hl => ?_)
      refine lv_iload_n hx hb dX6_lays_65 rfl (lv_at hl 3 rfl) ?_
      refine lv_if_eq (tgt := 97) hx hb dX6_lays_66 (by decide) (fun hc => ?_) (fun hc => ?_)
      · have hf := if_t hc hf
        exact wX6_lays_97 C q1 p0 res (fX6_lays_L44 p0 n) ih (upd k1 (x6).toNatClampNeg (x5 - x5 / (10 : Int32) * (10 : Int32))) x2 x4 y8 x6 _ _ ls hf hP hD hS (lv_sub hl [1, 2, 4, 0, 5] rfl)
      · have hf := if_f hc hf
        refine lv_aload_n hx hb dX6_lays_69 rfl (lv_at hl 1 rfl) ?_
        refine lv_iload hx hb dX6_lays_70 (lv_at hl 5 rfl) ?_
        obtain ⟨hin, hf⟩ := gI_use hf
        refine va_iald hx hb hG.1 hP 0 0 rfl rfl hin dX6_lays_72 ?_
        refine lv_iconst (v := (1 : Int32)) hx hb dX6_lays_73 (by decide) ?_
        refine lv_iload_n hx hb dX6_lays_74 rfl (lv_at hl 2 rfl) ?_
        obtain ⟨r10, hr10, hf⟩ := bd_use hf
        refine cl_S (wn := (wdX6_lays G q1 (upd k1 (x6).toNatClampNeg (x5 - x5 / (10 : Int32) * (10 : Int32))))) (st1 := [.int r10]) C hP hD hS (tX6_within l G ((upd k1 (x6).toNatClampNeg (x5 - x5 / (10 : Int32) * (10 : Int32))) (x6).toNatClampNeg) (1 : Int32) x2 r10 hr10) (va_cwS 3 hts gX6_lays_X6_within rfl rfl rfl (by decide +kernel) ⟨Nat.le_of_ble_eq_true rfl, Nat.le_of_ble_eq_true rfl⟩) [] [0] [0] rfl rfl rfl rfl (by decide) rfl rfl rfl hl.1 rfl rfl (Nat.le_of_ble_eq_true rfl) dX6_lays_75 (fun H locs hP hD hS => ?_)
        refine lv_if_eq (tgt := 97) hx hb dX6_lays_78 (by decide) (fun hc => ?_) (fun hc => ?_)
        · have hf := if_t hc hf
          exact wX6_lays_97 C q1 p0 res (fX6_lays_L44 p0 n) ih (upd k1 (x6).toNatClampNeg (x5 - x5 / (10 : Int32) * (10 : Int32))) x2 x4 y8 x6 _ _ ls hf hP hD hS (lv_sub hl [1, 2, 4, 0, 5] rfl)
        · have hf := if_f hc hf
          refine lv_iload hx hb dX6_lays_81 (lv_at hl 4 rfl) ?_
          refine lv_aload_n hx hb dX6_lays_83 rfl (lv_at hl 1 rfl) ?_
          refine lv_iload hx hb dX6_lays_84 (lv_at hl 5 rfl) ?_
          obtain ⟨hin, hf⟩ := gI_use hf
          refine va_iald hx hb hG.1 hP 0 0 rfl rfl hin dX6_lays_86 ?_
          refine lv_ishr hx hb dX6_lays_87 ?_
          refine lv_iconst (v := (1 : Int32)) hx hb dX6_lays_88 (by decide) ?_
          refine lv_iand hx hb dX6_lays_89 ?_
          refine lv_if_ne (tgt := 97) hx hb dX6_lays_90 (by decide) (fun hc => ?_) (fun hc => ?_)
          · have hf := if_f hc hf
            exact wX6_lays_97 C q1 p0 res (fX6_lays_L44 p0 n) ih (upd k1 (x6).toNatClampNeg (x5 - x5 / (10 : Int32) * (10 : Int32))) x2 x4 y8 x6 _ _ ls hf hP hD hS (lv_sub hl [1, 2, 4, 0, 5] rfl)
          · have hf := if_t hc hf
            refine lv_iconst (v := (1 : Int32)) hx hb dX6_lays_93 (by decide) ?_
            refine lv_goto (tgt := 98) hx hb dX6_lays_94 (by decide) ?_
            exact wX6_lays_98 C q1 p0 res (fX6_lays_L44 p0 n) ih (upd k1 (x6).toNatClampNeg (x5 - x5 / (10 : Int32) * (10 : Int32))) x2 x4 y8 x6 (1 : Int32) _ _ ls hf hP hD hS (lv_sub hl [1, 2, 4, 0, 5] rfl)
set_option maxHeartbeats 4000000 in
set_option maxRecDepth 100000 in
theorem wX6_lays_4 {p : Program} {l : Launch} {e : Env} {s : State} {m : MethodId} {args : Array Value} {below : List Frame} {meth : Method} {c : Code} {G : GX} {A : Nat → Prop} (C : Cx p s m args meth c cX6_lays 7 (some .boolean) wsX6_lays RX6 G A) (q1 : Nat) (p0 : Int32) (res : Int32 × (Nat → Int32)) (n : Nat) : ∀ (k1 : Nat → Int32) (x2 : Int32) (x3 : Int32) (H : Heap) (locs : List Loc) (ls : Array Slot), fX6_lays_L4 p0 n k1 x2 x3 = some res → va_P G.1 vwCl (wdX6_lays G q1 k1) H → va_D A (wdX6_lays G q1 k1) → va_S A s.heap H locs → lv_has ls 7 [(0, .int p0), (1, .ref q1), (2, .int x2), (3, .int x3)] → glX6_lays p l e s m args below meth c G A q1 res H locs 4 ls [] := by
  obtain ⟨hx, hb, hml, hown, hts, hr, hlocks, hA, hG⟩ := id C
  induction n with
  | zero => intro k1 x2 x3 H locs ls hf hP hD hS hl; cases hf
  | succ n ih =>
    intro k1 x2 x3 H locs ls hf hP hD hS hl
    simp only [fX6_lays_L4] at hf
    refine lv_iload_n hx hb dX6_lays_4 rfl (lv_at hl 3 rfl) ?_
    refine lv_if_le (tgt := 19) hx hb dX6_lays_5 (by decide) (fun hc => ?_) (fun hc => ?_)
    · have hf := if_t hc hf
      refine lv_iload_n hx hb dX6_lays_19 rfl (lv_at hl 2 rfl) ?_
      refine lv_iconst (v := (1 : Int32)) hx hb dX6_lays_20 (by decide) ?_
      refine lv_bipush (v := (9 : Int32)) hx hb dX6_lays_21 (by decide) ?_
      obtain ⟨r12, hr12, hf⟩ := bd_use hf
      refine cl_S (wn := (wdX6_lays G q1 k1)) (st1 := [.int r12]) C hP hD hS (tX6_within l G x2 (1 : Int32) (9 : Int32) r12 hr12) (va_cwS 3 hts gX6_lays_X6_within rfl rfl rfl (by decide +kernel) ⟨Nat.le_of_ble_eq_true rfl, Nat.le_of_ble_eq_true rfl⟩) [] [0] [0] rfl rfl rfl rfl (by decide) rfl rfl rfl hl.1 rfl rfl (Nat.le_of_ble_eq_true rfl) dX6_lays_23 (fun H locs hP hD hS => ?_)
      refine lv_istore_n (lv' := [(3, .int r12), (0, .int p0), (1, .ref q1), (2, .int x2)]) hx hb dX6_lays_26 rfl hl (by decide) rfl (fun ls hl => ?_)
      refine lv_iconst (v := (0 : Int32)) hx hb dX6_lays_27 (by decide) ?_
      refine lv_istore (lv' := [(4, .int (0 : Int32)), (3, .int r12), (0, .int p0), (1, .ref q1), (2, .int x2)]) hx hb dX6_lays_28 hl (by decide) rfl (fun ls hl => ?_)
      refine lv_iload_n hx hb dX6_lays_30 rfl (lv_at hl 2 rfl) ?_
      refine lv_istore (lv' := [(5, .int p0), (4, .int (0 : Int32)), (3, .int r12), (0, .int p0), (1, .ref q1), (2, .int x2)]) hx hb dX6_lays_31 hl (by decide) rfl (fun ls hl => ?_)
      refine lv_iload_n hx hb dX6_lays_33 rfl (lv_at hl 2 rfl) ?_
      refine lv_if_eq (tgt := 41) hx hb dX6_lays_34 (by decide) (fun hc => ?_) (fun hc => ?_)
      · have hf := if_t hc hf
        refine lv_iconst (v := (0 : Int32)) hx hb dX6_lays_41 (by decide) ?_
        refine lv_istore (lv' := [(6, .int (0 : Int32)), (5, .int p0), (4, .int (0 : Int32)), (3, .int r12), (0, .int p0), (1, .ref q1), (2, .int x2)]) hx hb dX6_lays_42 hl (by decide) rfl (fun ls hl => ?_)
        exact wX6_lays_44 C q1 p0 res fu k1 x2 r12 (0 : Int32) p0 (0 : Int32) _ _ ls hf hP hD hS (lv_sub hl [5, 6, 3, 2, 1, 0] rfl)
      · have hf := if_f hc hf
        refine lv_iload_n hx hb dX6_lays_37 rfl (lv_at hl 5 rfl) ?_
        refine lv_goto (tgt := 42) hx hb dX6_lays_38 (by decide) ?_
        refine lv_istore (lv' := [(6, .int x2), (5, .int p0), (4, .int (0 : Int32)), (3, .int r12), (0, .int p0), (1, .ref q1), (2, .int x2)]) hx hb dX6_lays_42 hl (by decide) rfl (fun ls hl => ?_)
        exact wX6_lays_44 C q1 p0 res fu k1 x2 r12 (0 : Int32) p0 x2 _ _ ls hf hP hD hS (lv_sub hl [5, 6, 3, 2, 1, 0] rfl)
    · have hf := if_f hc hf
      obtain ⟨y13, ey13⟩ : ∃ z : Int32, z = x2 + (1 : Int32) := ⟨_, rfl⟩
      have hf := nm_use ey13 hf
      refine lv_iinc (v := y13) (lv' := [(2, .int y13), (0, .int p0), (1, .ref q1), (3, .int x3)]) hx hb dX6_lays_8 hl (k := 2) rfl (by rw [ey13]; rfl) (by decide) rfl (fun ls hl => ?_)
      refine lv_iload_n hx hb dX6_lays_11 rfl (lv_at hl 3 rfl) ?_
      refine lv_bipush (v := (10 : Int32)) hx hb dX6_lays_12 (by decide) ?_
      refine lv_idiv hx hb dX6_lays_14 (by decide) ?_
      refine lv_topi (fun y14 ey14 => ?_)
      have hf := nm_use ey14 hf
      refine lv_istore_n (lv' := [(3, .int y14), (2, .int y13), (0, .int p0), (1, .ref q1)]) hx hb dX6_lays_15 rfl hl (by decide) rfl (fun ls hl => ?_)
      refine lv_goto (tgt := 4) hx hb dX6_lays_16 (by decide) ?_
      exact ih k1 y13 y14 _ _ ls hf hP hD hS (lv_sub hl [2, 3, 1, 0] rfl)
set_option maxHeartbeats 4000000 in
set_option maxRecDepth 100000 in
theorem tX6_lays (l : Launch) (G : GX) (q1 : Nat) (k1 : Nat → Int32) (p0 : Int32) (res : Int32 × (Nat → Int32)) (hf : fX6_lays k1 p0 = some res) : Ct l yX6_lays wsX6_lays rmX6_lays G [.int p0, .ref q1] (wdX6_lays G q1 k1) (wdX6_lays G q1 res.2) (some (.int res.1)) := by
  refine Ct.of (cc := cX6_lays) (nL := 7) (ret := (some .boolean)) (by decide) rfl (Nat.le_of_ble_eq_true rfl) rfl ?_
  intro p e s m below meth c A ls C hP hD hl
  obtain ⟨hx, hb, hml, hown, hts, hr, hlocks, hA, hG⟩ := id C
  have hS : va_S A s.heap s.heap [] := va_S.rf
  unfold fX6_lays at hf
  refine lv_iconst (v := (0 : Int32)) hx hb dX6_lays_0 (by decide) ?_
  refine lv_istore_n (lv' := [(2, .int (0 : Int32)), (0, .int p0), (1, .ref q1)]) hx hb dX6_lays_1 rfl hl (by decide) rfl (fun ls hl => ?_)
  refine lv_iload_n hx hb dX6_lays_2 rfl (lv_at hl 1 rfl) ?_
  refine lv_istore_n (lv' := [(3, .int p0), (2, .int (0 : Int32)), (0, .int p0), (1, .ref q1)]) hx hb dX6_lays_3 rfl hl (by decide) rfl (fun ls hl => ?_)
  exact wX6_lays_4 C q1 p0 res fu k1 (0 : Int32) p0 _ _ ls hf hP hD hS (lv_sub hl [2, 3, 1, 0] rfl)
abbrev wdX6_plainOf (G : GX) (q0 : Nat) (k0 : Nat → Int32) : va_W := [(q0, .inl (G.2.1, 10, .inl k0))]
abbrev rmX6_plainOf : Room := { frames := 0, cells := 0, slots := 0, locals := 0 }
abbrev glX6_plainOf (p : Program) (l : Launch) (e : Env) (s : State) (m : MethodId) (args : Array Value) (below : List Frame) (meth : Method) (c : Code) (G : GX) (A : Nat → Prop) (q0 : Nat) (k0 : Nat → Int32) (res : Int32) (H : Heap) (locs : List Loc) (pc : Nat) (ls : Array Slot) (st : List Value) : Prop := W p l e rmX6_plainOf s m args below meth c H locs 0 0 (MQ below (ctQ G A (wdX6_plainOf G q0 k0) (some (.int res))) args s 0 0 A) (F0 m pc ls st)
set_option maxHeartbeats 4000000 in
set_option maxRecDepth 100000 in
theorem wX6_plainOf_25 {p : Program} {l : Launch} {e : Env} {s : State} {m : MethodId} {args : Array Value} {below : List Frame} {meth : Method} {c : Code} {G : GX} {A : Nat → Prop} (C : Cx p s m args meth c cX6_plainOf 4 (some .int) wsX6_plainOf RX6 G A) (q0 : Nat) (k0 : Nat → Int32) (res : Int32) (n : Nat) : ∀ (x1 : Int32) (x2 : Int32) (x3 : Int32) (H : Heap) (locs : List Loc) (ls : Array Slot), fX6_plainOf_L25 k0 n x1 x2 x3 = some res → va_P G.1 vwCl (wdX6_plainOf G q0 k0) H → va_D A (wdX6_plainOf G q0 k0) → va_S A s.heap H locs → lv_has ls 4 [(0, .ref q0), (1, .int x1), (2, .int x2), (3, .int x3)] → glX6_plainOf p l e s m args below meth c G A q0 k0 res H locs 25 ls [] := by
  obtain ⟨hx, hb, hml, hown, hts, hr, hlocks, hA, hG⟩ := id C
  induction n with
  | zero => intro x1 x2 x3 H locs ls hf hP hD hS hl; cases hf
  | succ n ih =>
    intro x1 x2 x3 H locs ls hf hP hD hS hl
    simp only [fX6_plainOf_L25] at hf
    refine lv_iload_n hx hb dX6_plainOf_25 rfl (lv_at hl 3 rfl) ?_
    refine lv_iload_n hx hb dX6_plainOf_26 rfl (lv_at hl 1 rfl) ?_
    refine lv_icmp_gt (tgt := 45) hx hb dX6_plainOf_27 (by decide) (fun hc => ?_) (fun hc => ?_)
    · have hf := if_t hc hf
      refine lv_iload_n hx hb dX6_plainOf_45 rfl (lv_at hl 2 rfl) ?_
      cases hf
      exact rt_i C hP hD hS dX6_plainOf_46
    · have hf := if_f hc hf
      refine lv_bipush (v := (10 : Int32)) hx hb dX6_plainOf_30 (by decide) ?_
      refine lv_iload_n hx hb dX6_plainOf_32 rfl (lv_at hl 2 rfl) ?_
      refine lv_imul hx hb dX6_plainOf_33 ?_
      refine lv_aload_n hx hb dX6_plainOf_34 rfl (lv_at hl 0 rfl) ?_
      refine lv_iload_n hx hb dX6_plainOf_35 rfl (lv_at hl 3 rfl) ?_
      obtain ⟨hin, hf⟩ := gI_use hf
      refine va_iald hx hb hG.1 hP 0 0 rfl rfl hin dX6_plainOf_36 ?_
      refine lv_iadd hx hb dX6_plainOf_37 ?_
      refine lv_topi (fun y2 ey2 => ?_)
      have hf := nm_use ey2 hf
      refine lv_istore_n (lv' := [(2, .int y2), (0, .ref q0), (1, .int x1), (3, .int x3)]) hx hb dX6_plainOf_38 rfl hl (by decide) rfl (fun ls hl => ?_)
      obtain ⟨y3, ey3⟩ : ∃ z : Int32, z = x3 + (1 : Int32) := ⟨_, rfl⟩
      have hf := nm_use ey3 hf
      refine lv_iinc (v := y3) (lv' := [(3, .int y3), (2, .int y2), (0, .ref q0), (1, .int x1)]) hx hb dX6_plainOf_39 hl (k := 3) rfl (by rw [ey3]; rfl) (by decide) rfl (fun ls hl => ?_)
      refine lv_goto (tgt := 25) hx hb dX6_plainOf_42 (by decide) ?_
      exact ih x1 y2 y3 _ _ ls hf hP hD hS (lv_sub hl [2, 3, 1, 0] rfl)
set_option maxHeartbeats 4000000 in
set_option maxRecDepth 100000 in
theorem wX6_plainOf_3 {p : Program} {l : Launch} {e : Env} {s : State} {m : MethodId} {args : Array Value} {below : List Frame} {meth : Method} {c : Code} {G : GX} {A : Nat → Prop} (C : Cx p s m args meth c cX6_plainOf 4 (some .int) wsX6_plainOf RX6 G A) (q0 : Nat) (k0 : Nat → Int32) (res : Int32) (n : Nat) : ∀ (x1 : Int32) (H : Heap) (locs : List Loc) (ls : Array Slot), fX6_plainOf_L3 k0 n x1 = some res → va_P G.1 vwCl (wdX6_plainOf G q0 k0) H → va_D A (wdX6_plainOf G q0 k0) → va_S A s.heap H locs → lv_has ls 4 [(0, .ref q0), (1, .int x1)] → glX6_plainOf p l e s m args below meth c G A q0 k0 res H locs 3 ls [] := by
  obtain ⟨hx, hb, hml, hown, hts, hr, hlocks, hA, hG⟩ := id C
  induction n with
  | zero => intro x1 H locs ls hf hP hD hS hl; cases hf
  | succ n ih =>
    intro x1 H locs ls hf hP hD hS hl
    simp only [fX6_plainOf_L3] at hf
    refine lv_iload_n hx hb dX6_plainOf_3 rfl (lv_at hl 1 rfl) ?_
    refine lv_iconst (v := (1 : Int32)) hx hb dX6_plainOf_4 (by decide) ?_
    refine lv_icmp_le (tgt := 21) hx hb dX6_plainOf_5 (by decide) (fun hc => ?_) (fun hc => ?_)
    · have hf := if_t hc hf
      refine lv_iconst (v := (0 : Int32)) hx hb dX6_plainOf_21 (by decide) ?_
      refine lv_istore_n (lv' := [(2, .int (0 : Int32)), (0, .ref q0), (1, .int x1)]) hx hb dX6_plainOf_22 rfl hl (by decide) rfl (fun ls hl => ?_)
      refine lv_iconst (v := (1 : Int32)) hx hb dX6_plainOf_23 (by decide) ?_
      refine lv_istore_n (lv' := [(3, .int (1 : Int32)), (2, .int (0 : Int32)), (0, .ref q0), (1, .int x1)]) hx hb dX6_plainOf_24 rfl hl (by decide) rfl (fun ls hl => ?_)
      exact wX6_plainOf_25 C q0 k0 res fu x1 (0 : Int32) (1 : Int32) _ _ ls hf hP hD hS (lv_sub hl [2, 3, 1, 0] rfl)
    · have hf := if_f hc hf
      refine lv_aload_n hx hb dX6_plainOf_8 rfl (lv_at hl 0 rfl) ?_
      refine lv_iload_n hx hb dX6_plainOf_9 rfl (lv_at hl 1 rfl) ?_
      obtain ⟨hin, hf⟩ := gI_use hf
      refine va_iald hx hb hG.1 hP 0 0 rfl rfl hin dX6_plainOf_10 ?_
      refine lv_iload_n hx hb dX6_plainOf_11 rfl (lv_at hl 1 rfl) ?_
      refine lv_icmp_ne (tgt := 21) hx hb dX6_plainOf_12 (by decide) (fun hc => ?_) (fun hc => ?_)
      · have hf := if_f hc hf
        refine lv_iconst (v := (0 : Int32)) hx hb dX6_plainOf_21 (by decide) ?_
        refine lv_istore_n (lv' := [(2, .int (0 : Int32)), (0, .ref q0), (1, .int x1)]) hx hb dX6_plainOf_22 rfl hl (by decide) rfl (fun ls hl => ?_)
        refine lv_iconst (v := (1 : Int32)) hx hb dX6_plainOf_23 (by decide) ?_
        refine lv_istore_n (lv' := [(3, .int (1 : Int32)), (2, .int (0 : Int32)), (0, .ref q0), (1, .int x1)]) hx hb dX6_plainOf_24 rfl hl (by decide) rfl (fun ls hl => ?_)
        exact wX6_plainOf_25 C q0 k0 res fu x1 (0 : Int32) (1 : Int32) _ _ ls hf hP hD hS (lv_sub hl [2, 3, 1, 0] rfl)
      · have hf := if_t hc hf
        obtain ⟨y5, ey5⟩ : ∃ z : Int32, z = x1 + (-1 : Int32) := ⟨_, rfl⟩
        have hf := nm_use ey5 hf
        refine lv_iinc (v := y5) (lv' := [(1, .int y5), (0, .ref q0)]) hx hb dX6_plainOf_15 hl (k := 1) rfl (by rw [ey5]; rfl) (by decide) rfl (fun ls hl => ?_)
        refine lv_goto (tgt := 3) hx hb dX6_plainOf_18 (by decide) ?_
        exact ih y5 _ _ ls hf hP hD hS (lv_sub hl [1, 0] rfl)
set_option maxHeartbeats 4000000 in
set_option maxRecDepth 100000 in
theorem tX6_plainOf (l : Launch) (G : GX) (q0 : Nat) (k0 : Nat → Int32) (res : Int32) (hf : fX6_plainOf k0 = some res) : Ct l yX6_plainOf wsX6_plainOf rmX6_plainOf G [.ref q0] (wdX6_plainOf G q0 k0) (wdX6_plainOf G q0 k0) (some (.int res)) := by
  refine Ct.of (cc := cX6_plainOf) (nL := 4) (ret := (some .int)) (by decide) rfl (Nat.le_of_ble_eq_true rfl) rfl ?_
  intro p e s m below meth c A ls C hP hD hl
  obtain ⟨hx, hb, hml, hown, hts, hr, hlocks, hA, hG⟩ := id C
  have hS : va_S A s.heap s.heap [] := va_S.rf
  unfold fX6_plainOf at hf
  refine lv_bipush (v := (9 : Int32)) hx hb dX6_plainOf_0 (by decide) ?_
  refine lv_istore_n (lv' := [(1, .int (9 : Int32)), (0, .ref q0)]) hx hb dX6_plainOf_2 rfl hl (by decide) rfl (fun ls hl => ?_)
  exact wX6_plainOf_3 C q0 k0 res fu (9 : Int32) _ _ ls hf hP hD hS (lv_sub hl [1, 0] rfl)
abbrev wdX6_codeAt (G : GX) (q0 : Nat) (k0 : Nat → Int32) : va_W := [(q0, .inl (G.2.1, 10, .inl k0))]
abbrev rmX6_codeAt : Room := { frames := 0, cells := 0, slots := 0, locals := 0 }
abbrev glX6_codeAt (p : Program) (l : Launch) (e : Env) (s : State) (m : MethodId) (args : Array Value) (below : List Frame) (meth : Method) (c : Code) (G : GX) (A : Nat → Prop) (q0 : Nat) (k0 : Nat → Int32) (res : Int32) (H : Heap) (locs : List Loc) (pc : Nat) (ls : Array Slot) (st : List Value) : Prop := W p l e rmX6_codeAt s m args below meth c H locs 0 0 (MQ below (ctQ G A (wdX6_codeAt G q0 k0) (some (.int res))) args s 0 0 A) (F0 m pc ls st)
set_option maxHeartbeats 4000000 in
set_option maxRecDepth 100000 in
theorem wX6_codeAt_6 {p : Program} {l : Launch} {e : Env} {s : State} {m : MethodId} {args : Array Value} {below : List Frame} {meth : Method} {c : Code} {G : GX} {A : Nat → Prop} (C : Cx p s m args meth c cX6_codeAt 4 (some .int) wsX6_codeAt RX6 G A) (q0 : Nat) (k0 : Nat → Int32) (p1 : Int32) (res : Int32) (n : Nat) : ∀ (x2 : Int32) (x3 : Int32) (H : Heap) (locs : List Loc) (ls : Array Slot), fX6_codeAt_L6 k0 p1 n x2 x3 = some res → va_P G.1 vwCl (wdX6_codeAt G q0 k0) H → va_D A (wdX6_codeAt G q0 k0) → va_S A s.heap H locs → lv_has ls 4 [(0, .ref q0), (1, .int p1), (2, .int x2), (3, .int x3)] → glX6_codeAt p l e s m args below meth c G A q0 k0 res H locs 6 ls [] := by
  obtain ⟨hx, hb, hml, hown, hts, hr, hlocks, hA, hG⟩ := id C
  induction n with
  | zero => intro x2 x3 H locs ls hf hP hD hS hl; cases hf
  | succ n ih =>
    intro x2 x3 H locs ls hf hP hD hS hl
    simp only [fX6_codeAt_L6] at hf
    refine lv_iload_n hx hb dX6_codeAt_6 rfl (lv_at hl 3 rfl) ?_
    refine lv_bipush (v := (9 : Int32)) hx hb dX6_codeAt_7 (by decide) ?_
    refine lv_icmp_gt (tgt := 35) hx hb dX6_codeAt_9 (by decide) (fun hc => ?_) (fun hc => ?_)
    · have hf := if_t hc hf
      refine lv_iload_n hx hb dX6_codeAt_35 rfl (lv_at hl 2 rfl) ?_
      cases hf
      exact rt_i C hP hD hS dX6_codeAt_36
    · have hf := if_f hc hf
      refine lv_iload_n hx hb dX6_codeAt_12 rfl (lv_at hl 2 rfl) ?_
      refine lv_aload_n hx hb dX6_codeAt_13 rfl (lv_at hl 0 rfl) ?_
      refine lv_iload_n hx hb dX6_codeAt_14 rfl (lv_at hl 3 rfl) ?_
      obtain ⟨hin, hf⟩ := gI_use hf
      refine va_iald hx hb hG.1 hP 0 0 rfl rfl hin dX6_codeAt_15 ?_
      refine lv_aload_n hx hb dX6_codeAt_16 rfl (lv_at hl 0 rfl) ?_
      refine lv_iload_n hx hb dX6_codeAt_17 rfl (lv_at hl 1 rfl) ?_
      obtain ⟨hin, hf⟩ := gI_use hf
      refine va_iald hx hb hG.1 hP 0 0 rfl rfl hin dX6_codeAt_18 ?_
      refine lv_icmp_ge (tgt := 26) hx hb dX6_codeAt_19 (by decide) (fun hc => ?_) (fun hc => ?_)
      · have hf := if_t hc hf
        refine lv_iconst (v := (0 : Int32)) hx hb dX6_codeAt_26 (by decide) ?_
        refine lv_iadd hx hb dX6_codeAt_27 ?_
        refine lv_topi (fun y3 ey3 => ?_)
        have hf := nm_use ey3 hf
        refine lv_istore_n (lv' := [(2, .int y3), (0, .ref q0), (1, .int p1), (3, .int x3)]) hx hb dX6_codeAt_28 rfl hl (by decide) rfl (fun ls hl => ?_)
        obtain ⟨y4, ey4⟩ : ∃ z : Int32, z = x3 + (1 : Int32) := ⟨_, rfl⟩
        have hf := nm_use ey4 hf
        refine lv_iinc (v := y4) (lv' := [(3, .int y4), (2, .int y3), (0, .ref q0), (1, .int p1)]) hx hb dX6_codeAt_29 hl (k := 3) rfl (by rw [ey4]; rfl) (by decide) rfl (fun ls hl => ?_)
        refine lv_goto (tgt := 6) hx hb dX6_codeAt_32 (by decide) ?_
        exact ih y3 y4 _ _ ls hf hP hD hS (lv_sub hl [2, 3, 1, 0] rfl)
      · have hf := if_f hc hf
        refine lv_iconst (v := (1 : Int32)) hx hb dX6_codeAt_22 (by decide) ?_
        refine lv_goto (tgt := 27) hx hb dX6_codeAt_23 (by decide) ?_
        refine lv_iadd hx hb dX6_codeAt_27 ?_
        refine lv_topi (fun y5 ey5 => ?_)
        have hf := nm_use ey5 hf
        refine lv_istore_n (lv' := [(2, .int y5), (0, .ref q0), (1, .int p1), (3, .int x3)]) hx hb dX6_codeAt_28 rfl hl (by decide) rfl (fun ls hl => ?_)
        obtain ⟨y6, ey6⟩ : ∃ z : Int32, z = x3 + (1 : Int32) := ⟨_, rfl⟩
        have hf := nm_use ey6 hf
        refine lv_iinc (v := y6) (lv' := [(3, .int y6), (2, .int y5), (0, .ref q0), (1, .int p1)]) hx hb dX6_codeAt_29 hl (k := 3) rfl (by rw [ey6]; rfl) (by decide) rfl (fun ls hl => ?_)
        refine lv_goto (tgt := 6) hx hb dX6_codeAt_32 (by decide) ?_
        exact ih y5 y6 _ _ ls hf hP hD hS (lv_sub hl [2, 3, 1, 0] rfl)
set_option maxHeartbeats 4000000 in
set_option maxRecDepth 100000 in
theorem tX6_codeAt (l : Launch) (G : GX) (q0 : Nat) (k0 : Nat → Int32) (p1 : Int32) (res : Int32) (hf : fX6_codeAt k0 p1 = some res) : Ct l yX6_codeAt wsX6_codeAt rmX6_codeAt G [.ref q0, .int p1] (wdX6_codeAt G q0 k0) (wdX6_codeAt G q0 k0) (some (.int res)) := by
  refine Ct.of (cc := cX6_codeAt) (nL := 4) (ret := (some .int)) (by decide) rfl (Nat.le_of_ble_eq_true rfl) rfl ?_
  intro p e s m below meth c A ls C hP hD hl
  obtain ⟨hx, hb, hml, hown, hts, hr, hlocks, hA, hG⟩ := id C
  have hS : va_S A s.heap s.heap [] := va_S.rf
  unfold fX6_codeAt at hf
  refine lv_iconst (v := (0 : Int32)) hx hb dX6_codeAt_0 (by decide) ?_
  refine lv_istore_n (lv' := [(2, .int (0 : Int32)), (0, .ref q0), (1, .int p1)]) hx hb dX6_codeAt_1 rfl hl (by decide) rfl (fun ls hl => ?_)
  refine lv_iload_n hx hb dX6_codeAt_2 rfl (lv_at hl 2 rfl) ?_
  refine lv_iconst (v := (1 : Int32)) hx hb dX6_codeAt_3 (by decide) ?_
  refine lv_iadd hx hb dX6_codeAt_4 ?_
  refine lv_topi (fun y7 ey7 => ?_)
  have hf := nm_use ey7 hf
  refine lv_istore_n (lv' := [(3, .int y7), (2, .int (0 : Int32)), (0, .ref q0), (1, .int p1)]) hx hb dX6_codeAt_5 rfl hl (by decide) rfl (fun ls hl => ?_)
  exact wX6_codeAt_6 C q0 k0 p1 res fu (0 : Int32) y7 _ _ ls hf hP hD hS (lv_sub hl [2, 3, 1, 0] rfl)
abbrev wdX6_lengthOf (G : GX) (q0 : Nat) (k0 : Nat → Int32) : va_W := [(q0, .inl (G.2.1, 10, .inl k0))]
abbrev rmX6_lengthOf : Room := { frames := 1, cells := 0, slots := 0, locals := 23 }
abbrev glX6_lengthOf (p : Program) (l : Launch) (e : Env) (s : State) (m : MethodId) (args : Array Value) (below : List Frame) (meth : Method) (c : Code) (G : GX) (A : Nat → Prop) (q0 : Nat) (k0 : Nat → Int32) (res : Int32) (H : Heap) (locs : List Loc) (pc : Nat) (ls : Array Slot) (st : List Value) : Prop := W p l e rmX6_lengthOf s m args below meth c H locs 0 0 (MQ below (ctQ G A (wdX6_lengthOf G q0 k0) (some (.int res))) args s 0 0 A) (F0 m pc ls st)
set_option maxHeartbeats 4000000 in
set_option maxRecDepth 100000 in
theorem wX6_lengthOf_4 {p : Program} {l : Launch} {e : Env} {s : State} {m : MethodId} {args : Array Value} {below : List Frame} {meth : Method} {c : Code} {G : GX} {A : Nat → Prop} (C : Cx p s m args meth c cX6_lengthOf 3 (some .int) wsX6_lengthOf RX6 G A) (q0 : Nat) (k0 : Nat → Int32) (res : Int32) (n : Nat) : ∀ (x1 : Int32) (x2 : Int32) (H : Heap) (locs : List Loc) (ls : Array Slot), fX6_lengthOf_L4 k0 n x1 x2 = some res → va_P G.1 vwCl (wdX6_lengthOf G q0 k0) H → va_D A (wdX6_lengthOf G q0 k0) → va_S A s.heap H locs → lv_has ls 3 [(0, .ref q0), (1, .int x1), (2, .int x2)] → glX6_lengthOf p l e s m args below meth c G A q0 k0 res H locs 4 ls [] := by
  obtain ⟨hx, hb, hml, hown, hts, hr, hlocks, hA, hG⟩ := id C
  induction n with
  | zero => intro x1 x2 H locs ls hf hP hD hS hl; cases hf
  | succ n ih =>
    intro x1 x2 H locs ls hf hP hD hS hl
    simp only [fX6_lengthOf_L4] at hf
    refine lv_iload_n hx hb dX6_lengthOf_4 rfl (lv_at hl 2 rfl) ?_
    refine lv_bipush (v := (9 : Int32)) hx hb dX6_lengthOf_5 (by decide) ?_
    refine lv_icmp_gt (tgt := 24) hx hb dX6_lengthOf_7 (by decide) (fun hc => ?_) (fun hc => ?_)
    · have hf := if_t hc hf
      refine lv_iload_n hx hb dX6_lengthOf_24 rfl (lv_at hl 1 rfl) ?_
      cases hf
      exact rt_i C hP hD hS dX6_lengthOf_25
    · have hf := if_f hc hf
      refine lv_iload_n hx hb dX6_lengthOf_10 rfl (lv_at hl 1 rfl) ?_
      refine lv_aload_n hx hb dX6_lengthOf_11 rfl (lv_at hl 0 rfl) ?_
      refine lv_iload_n hx hb dX6_lengthOf_12 rfl (lv_at hl 2 rfl) ?_
      obtain ⟨r1, hr1, hf⟩ := bd_use hf
      refine cl_S (wn := (wdX6_lengthOf G q0 k0)) (st1 := [.int r1, .int x1]) C hP hD hS (tX6_codeAt l G q0 k0 x2 r1 hr1) (va_cwS 2 hts gX6_lengthOf_X6_codeAt rfl rfl rfl (by decide +kernel) ⟨Nat.le_of_ble_eq_true rfl, Nat.le_of_ble_eq_true rfl⟩) [0] [] [0] rfl rfl rfl rfl (by decide) rfl rfl rfl hl.1 rfl rfl (Nat.le_of_ble_eq_true rfl) dX6_lengthOf_13 (fun H locs hP hD hS => ?_)
      refine lv_iadd hx hb dX6_lengthOf_16 ?_
      refine lv_topi (fun y2 ey2 => ?_)
      have hf := nm_use ey2 hf
      refine lv_istore_n (lv' := [(1, .int y2), (0, .ref q0), (2, .int x2)]) hx hb dX6_lengthOf_17 rfl hl (by decide) rfl (fun ls hl => ?_)
      obtain ⟨y3, ey3⟩ : ∃ z : Int32, z = x2 + (1 : Int32) := ⟨_, rfl⟩
      have hf := nm_use ey3 hf
      refine lv_iinc (v := y3) (lv' := [(2, .int y3), (1, .int y2), (0, .ref q0)]) hx hb dX6_lengthOf_18 hl (k := 2) rfl (by rw [ey3]; rfl) (by decide) rfl (fun ls hl => ?_)
      refine lv_goto (tgt := 4) hx hb dX6_lengthOf_21 (by decide) ?_
      exact ih y2 y3 _ _ ls hf hP hD hS (lv_sub hl [2, 1, 0] rfl)
set_option maxHeartbeats 4000000 in
set_option maxRecDepth 100000 in
theorem tX6_lengthOf (l : Launch) (G : GX) (q0 : Nat) (k0 : Nat → Int32) (res : Int32) (hf : fX6_lengthOf k0 = some res) : Ct l yX6_lengthOf wsX6_lengthOf rmX6_lengthOf G [.ref q0] (wdX6_lengthOf G q0 k0) (wdX6_lengthOf G q0 k0) (some (.int res)) := by
  refine Ct.of (cc := cX6_lengthOf) (nL := 3) (ret := (some .int)) (by decide) rfl (Nat.le_of_ble_eq_true rfl) rfl ?_
  intro p e s m below meth c A ls C hP hD hl
  obtain ⟨hx, hb, hml, hown, hts, hr, hlocks, hA, hG⟩ := id C
  have hS : va_S A s.heap s.heap [] := va_S.rf
  unfold fX6_lengthOf at hf
  refine lv_iconst (v := (0 : Int32)) hx hb dX6_lengthOf_0 (by decide) ?_
  refine lv_istore_n (lv' := [(1, .int (0 : Int32)), (0, .ref q0)]) hx hb dX6_lengthOf_1 rfl hl (by decide) rfl (fun ls hl => ?_)
  refine lv_iconst (v := (1 : Int32)) hx hb dX6_lengthOf_2 (by decide) ?_
  refine lv_istore_n (lv' := [(2, .int (1 : Int32)), (1, .int (0 : Int32)), (0, .ref q0)]) hx hb dX6_lengthOf_3 rfl hl (by decide) rfl (fun ls hl => ?_)
  exact wX6_lengthOf_4 C q0 k0 res fu (0 : Int32) (1 : Int32) _ _ ls hf hP hD hS (lv_sub hl [2, 1, 0] rfl)
abbrev wdX6_exchange (G : GX) (q0 : Nat) (k0 : Nat → Int32) : va_W := [(q0, .inl (G.2.1, 10, .inl k0))]
abbrev rmX6_exchange : Room := { frames := 0, cells := 0, slots := 0, locals := 0 }
abbrev glX6_exchange (p : Program) (l : Launch) (e : Env) (s : State) (m : MethodId) (args : Array Value) (below : List Frame) (meth : Method) (c : Code) (G : GX) (A : Nat → Prop) (q0 : Nat) (res : (Nat → Int32)) (H : Heap) (locs : List Loc) (pc : Nat) (ls : Array Slot) (st : List Value) : Prop := W p l e rmX6_exchange s m args below meth c H locs 0 0 (MQ below (ctQ G A (wdX6_exchange G q0 res) none) args s 0 0 A) (F0 m pc ls st)
set_option maxHeartbeats 4000000 in
set_option maxRecDepth 100000 in
theorem tX6_exchange (l : Launch) (G : GX) (q0 : Nat) (k0 : Nat → Int32) (p1 : Int32) (p2 : Int32) (res : (Nat → Int32)) (hf : fX6_exchange k0 p1 p2 = some res) : Ct l yX6_exchange wsX6_exchange rmX6_exchange G [.ref q0, .int p1, .int p2] (wdX6_exchange G q0 k0) (wdX6_exchange G q0 res) none := by
  refine Ct.of (cc := cX6_exchange) (nL := 4) (ret := none) (by decide) rfl (Nat.le_of_ble_eq_true rfl) rfl ?_
  intro p e s m below meth c A ls C hP hD hl
  obtain ⟨hx, hb, hml, hown, hts, hr, hlocks, hA, hG⟩ := id C
  have hS : va_S A s.heap s.heap [] := va_S.rf
  unfold fX6_exchange at hf
  refine lv_aload_n hx hb dX6_exchange_0 rfl (lv_at hl 0 rfl) ?_
  refine lv_iload_n hx hb dX6_exchange_1 rfl (lv_at hl 1 rfl) ?_
  obtain ⟨hin, hf⟩ := gI_use hf
  refine va_iald hx hb hG.1 hP 0 0 rfl rfl hin dX6_exchange_2 ?_
  refine lv_topi (fun y2 ey2 => ?_)
  have hf := nm_use ey2 hf
  refine lv_istore_n (lv' := [(3, .int y2), (0, .ref q0), (1, .int p1), (2, .int p2)]) hx hb dX6_exchange_3 rfl hl (by decide) rfl (fun ls hl => ?_)
  refine lv_aload_n hx hb dX6_exchange_4 rfl (lv_at hl 1 rfl) ?_
  refine lv_iload_n hx hb dX6_exchange_5 rfl (lv_at hl 2 rfl) ?_
  refine lv_aload_n hx hb dX6_exchange_6 rfl (lv_at hl 1 rfl) ?_
  refine lv_iload_n hx hb dX6_exchange_7 rfl (lv_at hl 3 rfl) ?_
  obtain ⟨hin, hf⟩ := gI_use hf
  refine va_iald hx hb hG.1 hP 0 0 rfl rfl hin dX6_exchange_8 ?_
  obtain ⟨hin, hf⟩ := pI_use hf
  refine va_iast hx hb hG.1 hP hD hS 0 0 rfl rfl hin dX6_exchange_9 (fun H locs hP hD hS => ?_)
  have hP : va_P G.1 vwCl (wdX6_exchange G q0 (upd k0 (p1).toNatClampNeg (k0 (p2).toNatClampNeg))) H := hP
  have hD : va_D A (wdX6_exchange G q0 (upd k0 (p1).toNatClampNeg (k0 (p2).toNatClampNeg))) := hD
  refine lv_aload_n hx hb dX6_exchange_10 rfl (lv_at hl 1 rfl) ?_
  refine lv_iload_n hx hb dX6_exchange_11 rfl (lv_at hl 3 rfl) ?_
  refine lv_iload_n hx hb dX6_exchange_12 rfl (lv_at hl 0 rfl) ?_
  obtain ⟨hin, hf⟩ := pI_use hf
  refine va_iast hx hb hG.1 hP hD hS 0 0 rfl rfl hin dX6_exchange_13 (fun H locs hP hD hS => ?_)
  have hP : va_P G.1 vwCl (wdX6_exchange G q0 (upd (upd k0 (p1).toNatClampNeg (k0 (p2).toNatClampNeg)) (p2).toNatClampNeg y2)) H := hP
  have hD : va_D A (wdX6_exchange G q0 (upd (upd k0 (p1).toNatClampNeg (k0 (p2).toNatClampNeg)) (p2).toNatClampNeg y2)) := hD
  cases hf
  exact rt_v C hP hD hS dX6_exchange_14
abbrev wdX6_descentsOf (G : GX) (q0 : Nat) (k0 : Nat → Int32) : va_W := [(q0, .inl (G.2.1, 10, .inl k0))]
abbrev rmX6_descentsOf : Room := { frames := 0, cells := 0, slots := 0, locals := 0 }
abbrev glX6_descentsOf (p : Program) (l : Launch) (e : Env) (s : State) (m : MethodId) (args : Array Value) (below : List Frame) (meth : Method) (c : Code) (G : GX) (A : Nat → Prop) (q0 : Nat) (k0 : Nat → Int32) (res : Int32) (H : Heap) (locs : List Loc) (pc : Nat) (ls : Array Slot) (st : List Value) : Prop := W p l e rmX6_descentsOf s m args below meth c H locs 0 0 (MQ below (ctQ G A (wdX6_descentsOf G q0 k0) (some (.int res))) args s 0 0 A) (F0 m pc ls st)
set_option maxHeartbeats 4000000 in
set_option maxRecDepth 100000 in
theorem wX6_descentsOf_4 {p : Program} {l : Launch} {e : Env} {s : State} {m : MethodId} {args : Array Value} {below : List Frame} {meth : Method} {c : Code} {G : GX} {A : Nat → Prop} (C : Cx p s m args meth c cX6_descentsOf 3 (some .int) wsX6_descentsOf RX6 G A) (q0 : Nat) (k0 : Nat → Int32) (res : Int32) (n : Nat) : ∀ (x1 : Int32) (x2 : Int32) (H : Heap) (locs : List Loc) (ls : Array Slot), fX6_descentsOf_L4 k0 n x1 x2 = some res → va_P G.1 vwCl (wdX6_descentsOf G q0 k0) H → va_D A (wdX6_descentsOf G q0 k0) → va_S A s.heap H locs → lv_has ls 3 [(0, .ref q0), (1, .int x1), (2, .int x2)] → glX6_descentsOf p l e s m args below meth c G A q0 k0 res H locs 4 ls [] := by
  obtain ⟨hx, hb, hml, hown, hts, hr, hlocks, hA, hG⟩ := id C
  induction n with
  | zero => intro x1 x2 H locs ls hf hP hD hS hl; cases hf
  | succ n ih =>
    intro x1 x2 H locs ls hf hP hD hS hl
    simp only [fX6_descentsOf_L4] at hf
    refine lv_iload_n hx hb dX6_descentsOf_4 rfl (lv_at hl 2 rfl) ?_
    refine lv_bipush (v := (9 : Int32)) hx hb dX6_descentsOf_5 (by decide) ?_
    refine lv_icmp_ge (tgt := 37) hx hb dX6_descentsOf_7 (by decide) (fun hc => ?_) (fun hc => ?_)
    · have hf := if_t hc hf
      refine lv_iload_n hx hb dX6_descentsOf_37 rfl (lv_at hl 1 rfl) ?_
      cases hf
      exact rt_i C hP hD hS dX6_descentsOf_38
    · have hf := if_f hc hf
      refine lv_iload_n hx hb dX6_descentsOf_10 rfl (lv_at hl 1 rfl) ?_
      refine lv_aload_n hx hb dX6_descentsOf_11 rfl (lv_at hl 0 rfl) ?_
      refine lv_iload_n hx hb dX6_descentsOf_12 rfl (lv_at hl 2 rfl) ?_
      obtain ⟨hin, hf⟩ := gI_use hf
      refine va_iald hx hb hG.1 hP 0 0 rfl rfl hin dX6_descentsOf_13 ?_
      refine lv_aload_n hx hb dX6_descentsOf_14 rfl (lv_at hl 0 rfl) ?_
      refine lv_iload_n hx hb dX6_descentsOf_15 rfl (lv_at hl 2 rfl) ?_
      refine lv_iconst (v := (1 : Int32)) hx hb dX6_descentsOf_16 (by decide) ?_
      refine lv_iadd hx hb dX6_descentsOf_17 ?_
      obtain ⟨hin, hf⟩ := gI_use hf
      refine va_iald hx hb hG.1 hP 0 0 rfl rfl hin dX6_descentsOf_18 ?_
      refine lv_icmp_le (tgt := 28) hx hb dX6_descentsOf_19 (by decide) (fun hc => ?_) (fun hc => ?_)
      · have hf := if_t hc hf
        refine lv_iconst (v := (0 : Int32)) hx hb dX6_descentsOf_28 (by decide) ?_
        refine lv_ior hx hb dX6_descentsOf_29 ?_
        refine lv_topi (fun y3 ey3 => ?_)
        have hf := nm_use ey3 hf
        refine lv_istore_n (lv' := [(1, .int y3), (0, .ref q0), (2, .int x2)]) hx hb dX6_descentsOf_30 rfl hl (by decide) rfl (fun ls hl => ?_)
        obtain ⟨y4, ey4⟩ : ∃ z : Int32, z = x2 + (1 : Int32) := ⟨_, rfl⟩
        have hf := nm_use ey4 hf
        refine lv_iinc (v := y4) (lv' := [(2, .int y4), (1, .int y3), (0, .ref q0)]) hx hb dX6_descentsOf_31 hl (k := 2) rfl (by rw [ey4]; rfl) (by decide) rfl (fun ls hl => ?_)
        refine lv_goto (tgt := 4) hx hb dX6_descentsOf_34 (by decide) ?_
        exact ih y3 y4 _ _ ls hf hP hD hS (lv_sub hl [2, 1, 0] rfl)
      · have hf := if_f hc hf
        refine lv_iconst (v := (1 : Int32)) hx hb dX6_descentsOf_22 (by decide) ?_
        refine lv_iload_n hx hb dX6_descentsOf_23 rfl (lv_at hl 2 rfl) ?_
        refine lv_ishl hx hb dX6_descentsOf_24 ?_
        refine lv_goto (tgt := 29) hx hb dX6_descentsOf_25 (by decide) ?_
        refine lv_ior hx hb dX6_descentsOf_29 ?_
        refine lv_topi (fun y5 ey5 => ?_)
        have hf := nm_use ey5 hf
        refine lv_istore_n (lv' := [(1, .int y5), (0, .ref q0), (2, .int x2)]) hx hb dX6_descentsOf_30 rfl hl (by decide) rfl (fun ls hl => ?_)
        obtain ⟨y6, ey6⟩ : ∃ z : Int32, z = x2 + (1 : Int32) := ⟨_, rfl⟩
        have hf := nm_use ey6 hf
        refine lv_iinc (v := y6) (lv' := [(2, .int y6), (1, .int y5), (0, .ref q0)]) hx hb dX6_descentsOf_31 hl (k := 2) rfl (by rw [ey6]; rfl) (by decide) rfl (fun ls hl => ?_)
        refine lv_goto (tgt := 4) hx hb dX6_descentsOf_34 (by decide) ?_
        exact ih y5 y6 _ _ ls hf hP hD hS (lv_sub hl [2, 1, 0] rfl)
set_option maxHeartbeats 4000000 in
set_option maxRecDepth 100000 in
theorem tX6_descentsOf (l : Launch) (G : GX) (q0 : Nat) (k0 : Nat → Int32) (res : Int32) (hf : fX6_descentsOf k0 = some res) : Ct l yX6_descentsOf wsX6_descentsOf rmX6_descentsOf G [.ref q0] (wdX6_descentsOf G q0 k0) (wdX6_descentsOf G q0 k0) (some (.int res)) := by
  refine Ct.of (cc := cX6_descentsOf) (nL := 3) (ret := (some .int)) (by decide) rfl (Nat.le_of_ble_eq_true rfl) rfl ?_
  intro p e s m below meth c A ls C hP hD hl
  obtain ⟨hx, hb, hml, hown, hts, hr, hlocks, hA, hG⟩ := id C
  have hS : va_S A s.heap s.heap [] := va_S.rf
  unfold fX6_descentsOf at hf
  refine lv_iconst (v := (0 : Int32)) hx hb dX6_descentsOf_0 (by decide) ?_
  refine lv_istore_n (lv' := [(1, .int (0 : Int32)), (0, .ref q0)]) hx hb dX6_descentsOf_1 rfl hl (by decide) rfl (fun ls hl => ?_)
  refine lv_iconst (v := (1 : Int32)) hx hb dX6_descentsOf_2 (by decide) ?_
  refine lv_istore_n (lv' := [(2, .int (1 : Int32)), (1, .int (0 : Int32)), (0, .ref q0)]) hx hb dX6_descentsOf_3 rfl hl (by decide) rfl (fun ls hl => ?_)
  exact wX6_descentsOf_4 C q0 k0 res fu (0 : Int32) (1 : Int32) _ _ ls hf hP hD hS (lv_sub hl [2, 1, 0] rfl)
abbrev wdX6_isFit (G : GX) (q0 : Nat) (k0 : Nat → Int32) : va_W := [(q0, .inl (G.2.1, 10, .inl k0))]
abbrev rmX6_isFit : Room := { frames := 1, cells := 0, slots := 0, locals := 22 }
abbrev glX6_isFit (p : Program) (l : Launch) (e : Env) (s : State) (m : MethodId) (args : Array Value) (below : List Frame) (meth : Method) (c : Code) (G : GX) (A : Nat → Prop) (q0 : Nat) (k0 : Nat → Int32) (res : Int32) (H : Heap) (locs : List Loc) (pc : Nat) (ls : Array Slot) (st : List Value) : Prop := W p l e rmX6_isFit s m args below meth c H locs 0 0 (MQ below (ctQ G A (wdX6_isFit G q0 k0) (some (.int res))) args s 0 0 A) (F0 m pc ls st)
set_option maxHeartbeats 4000000 in
set_option maxRecDepth 100000 in
theorem tX6_isFit (l : Launch) (G : GX) (q0 : Nat) (k0 : Nat → Int32) (res : Int32) (hf : fX6_isFit k0 = some res) : Ct l yX6_isFit wsX6_isFit rmX6_isFit G [.ref q0] (wdX6_isFit G q0 k0) (wdX6_isFit G q0 k0) (some (.int res)) := by
  refine Ct.of (cc := cX6_isFit) (nL := 1) (ret := (some .boolean)) (by decide) rfl (Nat.le_of_ble_eq_true rfl) rfl ?_
  intro p e s m below meth c A ls C hP hD hl
  obtain ⟨hx, hb, hml, hown, hts, hr, hlocks, hA, hG⟩ := id C
  have hS : va_S A s.heap s.heap [] := va_S.rf
  unfold fX6_isFit at hf
  refine lv_aload_n hx hb dX6_isFit_0 rfl (lv_at hl 0 rfl) ?_
  obtain ⟨r1, hr1, hf⟩ := bd_use hf
  refine cl_S (wn := (wdX6_isFit G q0 k0)) (st1 := [.int r1]) C hP hD hS (tX6_descentsOf l G q0 k0 r1 hr1) (va_cwS 1 hts gX6_isFit_X6_descentsOf rfl rfl rfl (by decide +kernel) ⟨Nat.le_of_ble_eq_true rfl, Nat.le_of_ble_eq_true rfl⟩) [0] [] [0] rfl rfl rfl rfl (by decide) rfl rfl rfl hl.1 rfl rfl (Nat.le_of_ble_eq_true rfl) dX6_isFit_1 (fun H locs hP hD hS => ?_)
  refine lv_bipush (v := (32 : Int32)) hx hb dX6_isFit_4 (by decide) ?_
  refine lv_icmp_ge (tgt := 13) hx hb dX6_isFit_6 (by decide) (fun hc => ?_) (fun hc => ?_)
  · have hf := if_t hc hf
    refine lv_iconst (v := (0 : Int32)) hx hb dX6_isFit_13 (by decide) ?_
    cases hf
    exact rt_z C (Or.inl rfl) hP hD hS dX6_isFit_14
  · have hf := if_f hc hf
    refine lv_iconst (v := (1 : Int32)) hx hb dX6_isFit_9 (by decide) ?_
    refine lv_goto (tgt := 14) hx hb dX6_isFit_10 (by decide) ?_
    cases hf
    exact rt_z C (Or.inr rfl) hP hD hS dX6_isFit_14
abbrev wdX6_isSmall (G : GX) (q0 : Nat) (k0 : Nat → Int32) : va_W := [(q0, .inl (G.2.1, 10, .inl k0))]
abbrev rmX6_isSmall : Room := { frames := 0, cells := 0, slots := 0, locals := 0 }
abbrev glX6_isSmall (p : Program) (l : Launch) (e : Env) (s : State) (m : MethodId) (args : Array Value) (below : List Frame) (meth : Method) (c : Code) (G : GX) (A : Nat → Prop) (q0 : Nat) (k0 : Nat → Int32) (res : Int32) (H : Heap) (locs : List Loc) (pc : Nat) (ls : Array Slot) (st : List Value) : Prop := W p l e rmX6_isSmall s m args below meth c H locs 0 0 (MQ below (ctQ G A (wdX6_isSmall G q0 k0) (some (.int res))) args s 0 0 A) (F0 m pc ls st)
set_option maxHeartbeats 4000000 in
set_option maxRecDepth 100000 in
theorem wX6_isSmall_5 {p : Program} {l : Launch} {e : Env} {s : State} {m : MethodId} {args : Array Value} {below : List Frame} {meth : Method} {c : Code} {G : GX} {A : Nat → Prop} (C : Cx p s m args meth c cX6_isSmall 3 (some .boolean) wsX6_isSmall RX6 G A) (q0 : Nat) (k0 : Nat → Int32) (res : Int32) (n : Nat) : ∀ (x1 : Int32) (x2 : Int32) (H : Heap) (locs : List Loc) (ls : Array Slot), fX6_isSmall_L5 k0 n x1 x2 = some res → va_P G.1 vwCl (wdX6_isSmall G q0 k0) H → va_D A (wdX6_isSmall G q0 k0) → va_S A s.heap H locs → lv_has ls 3 [(0, .ref q0), (1, .int x1), (2, .int x2)] → glX6_isSmall p l e s m args below meth c G A q0 k0 res H locs 5 ls [] := by
  obtain ⟨hx, hb, hml, hown, hts, hr, hlocks, hA, hG⟩ := id C
  induction n with
  | zero => intro x1 x2 H locs ls hf hP hD hS hl; cases hf
  | succ n ih =>
    intro x1 x2 H locs ls hf hP hD hS hl
    simp only [fX6_isSmall_L5] at hf
    refine lv_iload_n hx hb dX6_isSmall_5 rfl (lv_at hl 2 rfl) ?_
    refine lv_bipush (v := (9 : Int32)) hx hb dX6_isSmall_6 (by decide) ?_
    refine lv_icmp_gt (tgt := 34) hx hb dX6_isSmall_8 (by decide) (fun hc => ?_) (fun hc => ?_)
    · have hf := if_t hc hf
      refine lv_iload_n hx hb dX6_isSmall_34 rfl (lv_at hl 1 rfl) ?_
      obtain ⟨hz, hf⟩ := bz_use hf
      cases hf
      exact rt_z C hz hP hD hS dX6_isSmall_35
    · have hf := if_f hc hf
      refine lv_iload_n hx hb dX6_isSmall_11 rfl (lv_at hl 1 rfl) ?_
      refine lv_if_eq (tgt := 26) hx hb dX6_isSmall_12 (by decide) (fun hc => ?_) (fun hc => ?_)
      · have hf := if_t hc hf
        refine lv_iconst (v := (0 : Int32)) hx hb dX6_isSmall_26 (by decide) ?_
        refine lv_istore_n (lv' := [(1, .int (0 : Int32)), (0, .ref q0), (2, .int x2)]) hx hb dX6_isSmall_27 rfl hl (by decide) rfl (fun ls hl => ?_)
        obtain ⟨y1, ey1⟩ : ∃ z : Int32, z = x2 + (1 : Int32) := ⟨_, rfl⟩
        have hf := nm_use ey1 hf
        refine lv_iinc (v := y1) (lv' := [(2, .int y1), (1, .int (0 : Int32)), (0, .ref q0)]) hx hb dX6_isSmall_28 hl (k := 2) rfl (by rw [ey1]; rfl) (by decide) rfl (fun ls hl => ?_)
        refine lv_goto (tgt := 5) hx hb dX6_isSmall_31 (by decide) ?_
        exact ih (0 : Int32) y1 _ _ ls hf hP hD hS (lv_sub hl [2, 1, 0] rfl)
      · have hf := if_f hc hf
        refine lv_aload_n hx hb dX6_isSmall_15 rfl (lv_at hl 0 rfl) ?_
        refine lv_iload_n hx hb dX6_isSmall_16 rfl (lv_at hl 2 rfl) ?_
        obtain ⟨hin, hf⟩ := gI_use hf
        refine va_iald hx hb hG.1 hP 0 0 rfl rfl hin dX6_isSmall_17 ?_
        refine lv_iload_n hx hb dX6_isSmall_18 rfl (lv_at hl 2 rfl) ?_
        refine lv_icmp_ne (tgt := 26) hx hb dX6_isSmall_19 (by decide) (fun hc => ?_) (fun hc => ?_)
        · have hf := if_f hc hf
          refine lv_iconst (v := (0 : Int32)) hx hb dX6_isSmall_26 (by decide) ?_
          refine lv_istore_n (lv' := [(1, .int (0 : Int32)), (0, .ref q0), (2, .int x2)]) hx hb dX6_isSmall_27 rfl hl (by decide) rfl (fun ls hl => ?_)
          obtain ⟨y3, ey3⟩ : ∃ z : Int32, z = x2 + (1 : Int32) := ⟨_, rfl⟩
          have hf := nm_use ey3 hf
          refine lv_iinc (v := y3) (lv' := [(2, .int y3), (1, .int (0 : Int32)), (0, .ref q0)]) hx hb dX6_isSmall_28 hl (k := 2) rfl (by rw [ey3]; rfl) (by decide) rfl (fun ls hl => ?_)
          refine lv_goto (tgt := 5) hx hb dX6_isSmall_31 (by decide) ?_
          exact ih (0 : Int32) y3 _ _ ls hf hP hD hS (lv_sub hl [2, 1, 0] rfl)
        · have hf := if_t hc hf
          refine lv_iconst (v := (1 : Int32)) hx hb dX6_isSmall_22 (by decide) ?_
          refine lv_goto (tgt := 27) hx hb dX6_isSmall_23 (by decide) ?_
          refine lv_istore_n (lv' := [(1, .int (1 : Int32)), (0, .ref q0), (2, .int x2)]) hx hb dX6_isSmall_27 rfl hl (by decide) rfl (fun ls hl => ?_)
          obtain ⟨y4, ey4⟩ : ∃ z : Int32, z = x2 + (1 : Int32) := ⟨_, rfl⟩
          have hf := nm_use ey4 hf
          refine lv_iinc (v := y4) (lv' := [(2, .int y4), (1, .int (1 : Int32)), (0, .ref q0)]) hx hb dX6_isSmall_28 hl (k := 2) rfl (by rw [ey4]; rfl) (by decide) rfl (fun ls hl => ?_)
          refine lv_goto (tgt := 5) hx hb dX6_isSmall_31 (by decide) ?_
          exact ih (1 : Int32) y4 _ _ ls hf hP hD hS (lv_sub hl [2, 1, 0] rfl)
set_option maxHeartbeats 4000000 in
set_option maxRecDepth 100000 in
theorem tX6_isSmall (l : Launch) (G : GX) (q0 : Nat) (k0 : Nat → Int32) (res : Int32) (hf : fX6_isSmall k0 = some res) : Ct l yX6_isSmall wsX6_isSmall rmX6_isSmall G [.ref q0] (wdX6_isSmall G q0 k0) (wdX6_isSmall G q0 k0) (some (.int res)) := by
  refine Ct.of (cc := cX6_isSmall) (nL := 3) (ret := (some .boolean)) (by decide) rfl (Nat.le_of_ble_eq_true rfl) rfl ?_
  intro p e s m below meth c A ls C hP hD hl
  obtain ⟨hx, hb, hml, hown, hts, hr, hlocks, hA, hG⟩ := id C
  have hS : va_S A s.heap s.heap [] := va_S.rf
  unfold fX6_isSmall at hf
  refine lv_iconst (v := (1 : Int32)) hx hb dX6_isSmall_0 (by decide) ?_
  refine lv_istore_n (lv' := [(1, .int (1 : Int32)), (0, .ref q0)]) hx hb dX6_isSmall_1 rfl hl (by decide) rfl (fun ls hl => ?_)
  refine lv_bipush (v := (6 : Int32)) hx hb dX6_isSmall_2 (by decide) ?_
  refine lv_istore_n (lv' := [(2, .int (6 : Int32)), (1, .int (1 : Int32)), (0, .ref q0)]) hx hb dX6_isSmall_4 rfl hl (by decide) rfl (fun ls hl => ?_)
  exact wX6_isSmall_5 C q0 k0 res fu (1 : Int32) (6 : Int32) _ _ ls hf hP hD hS (lv_sub hl [2, 1, 0] rfl)
