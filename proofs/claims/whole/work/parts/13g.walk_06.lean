abbrev wdX5_code (G : GX) (q0 : Nat) (q0_first : Nat) (q0_first_row : Nat) (q0_second : Nat) (q0_third : Nat) (q0_list : Nat) (q0_page : Nat) (q0_single : Nat) (q0_parts : Nat) (k0_first_row : Nat → Int32) : va_W := [(q0, .inr (5, [.ref q0_first, .ref q0_second, .ref q0_third, .ref q0_list, .ref q0_page, .ref q0_single, .ref q0_parts])), (q0_first, .inr (1, [.ref q0_first_row])), (q0_first_row, .inl (G.2.1, 10, .inl k0_first_row))]
abbrev rmX5_code : Room := { frames := 2, cells := 0, slots := 0, locals := 47 }
abbrev glX5_code (p : Program) (l : Launch) (e : Env) (s : State) (m : MethodId) (args : Array Value) (below : List Frame) (meth : Method) (c : Code) (G : GX) (A : Nat → Prop) (q0 : Nat) (q0_first : Nat) (q0_first_row : Nat) (q0_second : Nat) (q0_third : Nat) (q0_list : Nat) (q0_page : Nat) (q0_single : Nat) (q0_parts : Nat) (res : Int32 × (Nat → Int32)) (H : Heap) (locs : List Loc) (pc : Nat) (ls : Array Slot) (st : List Value) : Prop := W p l e rmX5_code s m args below meth c H locs 0 0 (MQ below (ctQ G A (wdX5_code G q0 q0_first q0_first_row q0_second q0_third q0_list q0_page q0_single q0_parts res.2) (some (.int res.1))) args s 0 0 A) (F0 m pc ls st)
set_option maxRecDepth 20000 in
theorem mX5_code_0 : Cond.fieldLink RX5 12 "SchubertDesk" "first" "LSchubertDesk$Digits;" ∈ wsX5_code := by decide +kernel
set_option maxRecDepth 20000 in
theorem nX5_code_X5 : ∀ w ∈ u_ws RX5 TX5 7, w ∈ wsX5_code := by decide +kernel
set_option maxHeartbeats 4000000 in
set_option maxRecDepth 100000 in
theorem tX5_code (l : Launch) (G : GX) (q0 : Nat) (q0_first : Nat) (q0_first_row : Nat) (q0_second : Nat) (q0_third : Nat) (q0_list : Nat) (q0_page : Nat) (q0_single : Nat) (q0_parts : Nat) (k0_first_row : Nat → Int32) (p1 : Int32) (p2 : Int32) (res : Int32 × (Nat → Int32)) (hf : fX5_code k0_first_row p1 p2 = some res) : Ct l yX5_code wsX5_code rmX5_code G [.ref q0, .int p1, .int p2] (wdX5_code G q0 q0_first q0_first_row q0_second q0_third q0_list q0_page q0_single q0_parts k0_first_row) (wdX5_code G q0 q0_first q0_first_row q0_second q0_third q0_list q0_page q0_single q0_parts res.2) (some (.int res.1)) := by
  refine Ct.of (cc := cX5_code) (nL := 3) (ret := (some .int)) (by decide) rfl (Nat.le_of_ble_eq_true rfl) rfl ?_
  intro p e s m below meth c A ls C hP hD hl
  obtain ⟨hx, hb, hml, hown, hts, hr, hlocks, hA, hG⟩ := id C
  have hS : va_S A s.heap s.heap [] := va_S.rf
  unfold fX5_code at hf
  refine lv_aload_n hx hb dX5_code_0 rfl (lv_at hl 0 rfl) ?_
  refine va_get (D := G.1) (ci := 5) (v := .ref q0_first) (C := RX5) (T := TX5) (N := 7) hx hb hts nX5_code_X5 hown hG.1 hP 0 rfl rfl 0 (by decide) (hts _ mX5_code_0) (fun _ h9 => h9) rfl dX5_code_1 ?_
  refine lv_iload_n hx hb dX5_code_4 rfl (lv_at hl 1 rfl) ?_
  obtain ⟨r1, hr1, hf⟩ := bd_use hf
  refine cl_V (wn := (wdX5_code G q0 q0_first q0_first_row q0_second q0_third q0_list q0_page q0_single q0_parts r1.2)) (st1 := [.int r1.1]) C hP hD hS (tX1_read l G q0_first q0_first_row k0_first_row p1 r1 hr1) (cwV 1 hts gX5_code_X1_read rfl rfl rfl (by decide +kernel) ⟨Nat.le_of_ble_eq_true rfl, Nat.le_of_ble_eq_true rfl⟩) [1, 2] [0] [0, 1, 2] rfl rfl rfl rfl (by decide) rfl rfl (ci := 1) (q0 := 1) rfl rfl rfl rfl hl.1 rfl rfl (Nat.le_of_ble_eq_true rfl) dX5_code_5 (fun H locs hP hD hS => ?_)
  refine lv_if_eq (tgt := 22) hx hb dX5_code_8 (by decide) (fun hc => ?_) (fun hc => ?_)
  · have hf := if_t hc hf
    refine lv_bipush (v := (-2 : Int32)) hx hb dX5_code_22 (by decide) ?_
    cases hf
    exact rt_i C hP hD hS dX5_code_24
  · have hf := if_f hc hf
    refine lv_iload_n hx hb dX5_code_11 rfl (lv_at hl 2 rfl) ?_
    refine lv_iconst (v := (1 : Int32)) hx hb dX5_code_12 (by decide) ?_
    refine lv_icmp_lt (tgt := 22) hx hb dX5_code_13 (by decide) (fun hc => ?_) (fun hc => ?_)
    · have hf := if_t hc hf
      refine lv_bipush (v := (-2 : Int32)) hx hb dX5_code_22 (by decide) ?_
      cases hf
      exact rt_i C hP hD hS dX5_code_24
    · have hf := if_f hc hf
      refine lv_iload_n hx hb dX5_code_16 rfl (lv_at hl 2 rfl) ?_
      refine lv_bipush (v := (9 : Int32)) hx hb dX5_code_17 (by decide) ?_
      refine lv_icmp_le (tgt := 25) hx hb dX5_code_19 (by decide) (fun hc => ?_) (fun hc => ?_)
      · have hf := if_t hc hf
        refine lv_aload_n hx hb dX5_code_25 rfl (lv_at hl 0 rfl) ?_
        refine va_get (D := G.1) (ci := 5) (v := .ref q0_first) (C := RX5) (T := TX5) (N := 7) hx hb hts nX5_code_X5 hown hG.1 hP 0 rfl rfl 0 (by decide) (hts _ mX5_code_0) (fun _ h9 => h9) rfl dX5_code_26 ?_
        refine lv_iload_n hx hb dX5_code_29 rfl (lv_at hl 2 rfl) ?_
        obtain ⟨r2, hr2, hf⟩ := bd_use hf
        refine cl_V (wn := (wdX5_code G q0 q0_first q0_first_row q0_second q0_third q0_list q0_page q0_single q0_parts r1.2)) (st1 := [.int r2]) C hP hD hS (tX1_codeAt l G q0_first q0_first_row r1.2 p2 r2 hr2) (cwV 1 hts gX5_code_X1_codeAt rfl rfl rfl (by decide +kernel) ⟨Nat.le_of_ble_eq_true rfl, Nat.le_of_ble_eq_true rfl⟩) [1, 2] [0] [0, 1, 2] rfl rfl rfl rfl (by decide) rfl rfl (ci := 1) (q0 := 1) rfl rfl rfl rfl hl.1 rfl rfl (Nat.le_of_ble_eq_true rfl) dX5_code_30 (fun H locs hP hD hS => ?_)
        cases hf
        exact rt_i C hP hD hS dX5_code_33
      · have hf := if_f hc hf
        refine lv_bipush (v := (-2 : Int32)) hx hb dX5_code_22 (by decide) ?_
        cases hf
        exact rt_i C hP hD hS dX5_code_24
abbrev wdX5_descents (G : GX) (q0 : Nat) (q0_first : Nat) (q0_first_row : Nat) (q0_second : Nat) (q0_third : Nat) (q0_list : Nat) (q0_page : Nat) (q0_single : Nat) (q0_parts : Nat) (k0_first_row : Nat → Int32) : va_W := [(q0, .inr (5, [.ref q0_first, .ref q0_second, .ref q0_third, .ref q0_list, .ref q0_page, .ref q0_single, .ref q0_parts])), (q0_first, .inr (1, [.ref q0_first_row])), (q0_first_row, .inl (G.2.1, 10, .inl k0_first_row))]
abbrev rmX5_descents : Room := { frames := 2, cells := 0, slots := 0, locals := 47 }
abbrev glX5_descents (p : Program) (l : Launch) (e : Env) (s : State) (m : MethodId) (args : Array Value) (below : List Frame) (meth : Method) (c : Code) (G : GX) (A : Nat → Prop) (q0 : Nat) (q0_first : Nat) (q0_first_row : Nat) (q0_second : Nat) (q0_third : Nat) (q0_list : Nat) (q0_page : Nat) (q0_single : Nat) (q0_parts : Nat) (res : Int32 × (Nat → Int32)) (H : Heap) (locs : List Loc) (pc : Nat) (ls : Array Slot) (st : List Value) : Prop := W p l e rmX5_descents s m args below meth c H locs 0 0 (MQ below (ctQ G A (wdX5_descents G q0 q0_first q0_first_row q0_second q0_third q0_list q0_page q0_single q0_parts res.2) (some (.int res.1))) args s 0 0 A) (F0 m pc ls st)
set_option maxRecDepth 20000 in
theorem mX5_descents_0 : Cond.fieldLink RX5 12 "SchubertDesk" "first" "LSchubertDesk$Digits;" ∈ wsX5_descents := by decide +kernel
set_option maxRecDepth 20000 in
theorem nX5_descents_X5 : ∀ w ∈ u_ws RX5 TX5 7, w ∈ wsX5_descents := by decide +kernel
set_option maxHeartbeats 4000000 in
set_option maxRecDepth 100000 in
theorem tX5_descents (l : Launch) (G : GX) (q0 : Nat) (q0_first : Nat) (q0_first_row : Nat) (q0_second : Nat) (q0_third : Nat) (q0_list : Nat) (q0_page : Nat) (q0_single : Nat) (q0_parts : Nat) (k0_first_row : Nat → Int32) (p1 : Int32) (res : Int32 × (Nat → Int32)) (hf : fX5_descents k0_first_row p1 = some res) : Ct l yX5_descents wsX5_descents rmX5_descents G [.ref q0, .int p1] (wdX5_descents G q0 q0_first q0_first_row q0_second q0_third q0_list q0_page q0_single q0_parts k0_first_row) (wdX5_descents G q0 q0_first q0_first_row q0_second q0_third q0_list q0_page q0_single q0_parts res.2) (some (.int res.1)) := by
  refine Ct.of (cc := cX5_descents) (nL := 2) (ret := (some .int)) (by decide) rfl (Nat.le_of_ble_eq_true rfl) rfl ?_
  intro p e s m below meth c A ls C hP hD hl
  obtain ⟨hx, hb, hml, hown, hts, hr, hlocks, hA, hG⟩ := id C
  have hS : va_S A s.heap s.heap [] := va_S.rf
  unfold fX5_descents at hf
  refine lv_aload_n hx hb dX5_descents_0 rfl (lv_at hl 0 rfl) ?_
  refine va_get (D := G.1) (ci := 5) (v := .ref q0_first) (C := RX5) (T := TX5) (N := 7) hx hb hts nX5_descents_X5 hown hG.1 hP 0 rfl rfl 0 (by decide) (hts _ mX5_descents_0) (fun _ h9 => h9) rfl dX5_descents_1 ?_
  refine lv_iload_n hx hb dX5_descents_4 rfl (lv_at hl 1 rfl) ?_
  obtain ⟨r1, hr1, hf⟩ := bd_use hf
  refine cl_V (wn := (wdX5_descents G q0 q0_first q0_first_row q0_second q0_third q0_list q0_page q0_single q0_parts r1.2)) (st1 := [.int r1.1]) C hP hD hS (tX1_read l G q0_first q0_first_row k0_first_row p1 r1 hr1) (cwV 1 hts gX5_descents_X1_read rfl rfl rfl (by decide +kernel) ⟨Nat.le_of_ble_eq_true rfl, Nat.le_of_ble_eq_true rfl⟩) [1, 2] [0] [0, 1, 2] rfl rfl rfl rfl (by decide) rfl rfl (ci := 1) (q0 := 1) rfl rfl rfl rfl hl.1 rfl rfl (Nat.le_of_ble_eq_true rfl) dX5_descents_5 (fun H locs hP hD hS => ?_)
  refine lv_if_eq (tgt := 21) hx hb dX5_descents_8 (by decide) (fun hc => ?_) (fun hc => ?_)
  · have hf := if_t hc hf
    refine lv_bipush (v := (-2 : Int32)) hx hb dX5_descents_21 (by decide) ?_
    cases hf
    exact rt_i C hP hD hS dX5_descents_23
  · have hf := if_f hc hf
    refine lv_aload_n hx hb dX5_descents_11 rfl (lv_at hl 0 rfl) ?_
    refine va_get (D := G.1) (ci := 5) (v := .ref q0_first) (C := RX5) (T := TX5) (N := 7) hx hb hts nX5_descents_X5 hown hG.1 hP 0 rfl rfl 0 (by decide) (hts _ mX5_descents_0) (fun _ h9 => h9) rfl dX5_descents_12 ?_
    obtain ⟨r2, hr2, hf⟩ := bd_use hf
    refine cl_V (wn := (wdX5_descents G q0 q0_first q0_first_row q0_second q0_third q0_list q0_page q0_single q0_parts r1.2)) (st1 := [.int r2]) C hP hD hS (tX1_descentSet l G q0_first q0_first_row r1.2 r2 hr2) (cwV 0 hts gX5_descents_X1_descentSet rfl rfl rfl (by decide +kernel) ⟨Nat.le_of_ble_eq_true rfl, Nat.le_of_ble_eq_true rfl⟩) [1, 2] [0] [0, 1, 2] rfl rfl rfl rfl (by decide) rfl rfl (ci := 1) (q0 := 1) rfl rfl rfl rfl hl.1 rfl rfl (Nat.le_of_ble_eq_true rfl) dX5_descents_15 (fun H locs hP hD hS => ?_)
    refine lv_goto (tgt := 23) hx hb dX5_descents_18 (by decide) ?_
    cases hf
    exact rt_i C hP hD hS dX5_descents_23
abbrev wdX5_inverse (G : GX) (q0 : Nat) (q0_first : Nat) (q0_first_row : Nat) (q0_second : Nat) (q0_second_row : Nat) (q0_third : Nat) (q0_list : Nat) (q0_page : Nat) (q0_single : Nat) (q0_parts : Nat) (k0_first_row : Nat → Int32) (k0_second_row : Nat → Int32) : va_W := [(q0, .inr (5, [.ref q0_first, .ref q0_second, .ref q0_third, .ref q0_list, .ref q0_page, .ref q0_single, .ref q0_parts])), (q0_first, .inr (1, [.ref q0_first_row])), (q0_first_row, .inl (G.2.1, 10, .inl k0_first_row)), (q0_second, .inr (1, [.ref q0_second_row])), (q0_second_row, .inl (G.2.1, 10, .inl k0_second_row))]
abbrev rmX5_inverse : Room := { frames := 2, cells := 0, slots := 0, locals := 47 }
abbrev glX5_inverse (p : Program) (l : Launch) (e : Env) (s : State) (m : MethodId) (args : Array Value) (below : List Frame) (meth : Method) (c : Code) (G : GX) (A : Nat → Prop) (q0 : Nat) (q0_first : Nat) (q0_first_row : Nat) (q0_second : Nat) (q0_second_row : Nat) (q0_third : Nat) (q0_list : Nat) (q0_page : Nat) (q0_single : Nat) (q0_parts : Nat) (res : Int32 × (Nat → Int32) × (Nat → Int32)) (H : Heap) (locs : List Loc) (pc : Nat) (ls : Array Slot) (st : List Value) : Prop := W p l e rmX5_inverse s m args below meth c H locs 0 0 (MQ below (ctQ G A (wdX5_inverse G q0 q0_first q0_first_row q0_second q0_second_row q0_third q0_list q0_page q0_single q0_parts res.2.1 res.2.2) (some (.int res.1))) args s 0 0 A) (F0 m pc ls st)
set_option maxRecDepth 20000 in
theorem mX5_inverse_0 : Cond.fieldLink RX5 12 "SchubertDesk" "first" "LSchubertDesk$Digits;" ∈ wsX5_inverse := by decide +kernel
set_option maxRecDepth 20000 in
theorem mX5_inverse_1 : Cond.fieldLink RX5 18 "SchubertDesk" "second" "LSchubertDesk$Digits;" ∈ wsX5_inverse := by decide +kernel
set_option maxRecDepth 20000 in
theorem nX5_inverse_X5 : ∀ w ∈ u_ws RX5 TX5 7, w ∈ wsX5_inverse := by decide +kernel
set_option maxHeartbeats 4000000 in
set_option maxRecDepth 100000 in
theorem tX5_inverse (l : Launch) (G : GX) (q0 : Nat) (q0_first : Nat) (q0_first_row : Nat) (q0_second : Nat) (q0_second_row : Nat) (q0_third : Nat) (q0_list : Nat) (q0_page : Nat) (q0_single : Nat) (q0_parts : Nat) (k0_first_row : Nat → Int32) (k0_second_row : Nat → Int32) (p1 : Int32) (res : Int32 × (Nat → Int32) × (Nat → Int32)) (hf : fX5_inverse k0_first_row k0_second_row p1 = some res) : Ct l yX5_inverse wsX5_inverse rmX5_inverse G [.ref q0, .int p1] (wdX5_inverse G q0 q0_first q0_first_row q0_second q0_second_row q0_third q0_list q0_page q0_single q0_parts k0_first_row k0_second_row) (wdX5_inverse G q0 q0_first q0_first_row q0_second q0_second_row q0_third q0_list q0_page q0_single q0_parts res.2.1 res.2.2) (some (.int res.1)) := by
  refine Ct.of (cc := cX5_inverse) (nL := 2) (ret := (some .int)) (by decide) rfl (Nat.le_of_ble_eq_true rfl) rfl ?_
  intro p e s m below meth c A ls C hP hD hl
  obtain ⟨hx, hb, hml, hown, hts, hr, hlocks, hA, hG⟩ := id C
  have hS : va_S A s.heap s.heap [] := va_S.rf
  unfold fX5_inverse at hf
  refine lv_aload_n hx hb dX5_inverse_0 rfl (lv_at hl 0 rfl) ?_
  refine va_get (D := G.1) (ci := 5) (v := .ref q0_first) (C := RX5) (T := TX5) (N := 7) hx hb hts nX5_inverse_X5 hown hG.1 hP 0 rfl rfl 0 (by decide) (hts _ mX5_inverse_0) (fun _ h9 => h9) rfl dX5_inverse_1 ?_
  refine lv_iload_n hx hb dX5_inverse_4 rfl (lv_at hl 1 rfl) ?_
  obtain ⟨r1, hr1, hf⟩ := bd_use hf
  refine cl_V (wn := (wdX5_inverse G q0 q0_first q0_first_row q0_second q0_second_row q0_third q0_list q0_page q0_single q0_parts r1.2 k0_second_row)) (st1 := [.int r1.1]) C hP hD hS (tX1_read l G q0_first q0_first_row k0_first_row p1 r1 hr1) (cwV 1 hts gX5_inverse_X1_read rfl rfl rfl (by decide +kernel) ⟨Nat.le_of_ble_eq_true rfl, Nat.le_of_ble_eq_true rfl⟩) [1, 2] [0, 3, 4] [0, 3, 4, 1, 2] rfl rfl rfl rfl (by decide) rfl rfl (ci := 1) (q0 := 1) rfl rfl rfl rfl hl.1 rfl rfl (Nat.le_of_ble_eq_true rfl) dX5_inverse_5 (fun H locs hP hD hS => ?_)
  refine lv_if_ne (tgt := 14) hx hb dX5_inverse_8 (by decide) (fun hc => ?_) (fun hc => ?_)
  · have hf := if_f hc hf
    refine lv_aload_n hx hb dX5_inverse_14 rfl (lv_at hl 0 rfl) ?_
    refine va_get (D := G.1) (ci := 5) (v := .ref q0_second) (C := RX5) (T := TX5) (N := 7) hx hb hts nX5_inverse_X5 hown hG.1 hP 0 rfl rfl 1 (by decide) (hts _ mX5_inverse_1) (fun _ h9 => h9) rfl dX5_inverse_15 ?_
    refine lv_aload_n hx hb dX5_inverse_18 rfl (lv_at hl 0 rfl) ?_
    refine va_get (D := G.1) (ci := 5) (v := .ref q0_first) (C := RX5) (T := TX5) (N := 7) hx hb hts nX5_inverse_X5 hown hG.1 hP 0 rfl rfl 0 (by decide) (hts _ mX5_inverse_0) (fun _ h9 => h9) rfl dX5_inverse_19 ?_
    obtain ⟨r2, hr2, hf⟩ := bd_use hf
    refine cl_V (wn := (wdX5_inverse G q0 q0_first q0_first_row q0_second q0_second_row q0_third q0_list q0_page q0_single q0_parts r1.2 r2)) (st1 := []) C hP hD hS (tX1_becomeInverse l G q0_second q0_second_row q0_first q0_first_row k0_second_row r1.2 r2 hr2) (cwV 1 hts gX5_inverse_X1_becomeInverse rfl rfl rfl (by decide +kernel) ⟨Nat.le_of_ble_eq_true rfl, Nat.le_of_ble_eq_true rfl⟩) [3, 4, 1, 2] [0] [0, 3, 4, 1, 2] rfl rfl rfl rfl (by decide) rfl rfl (ci := 1) (q0 := 3) rfl rfl rfl rfl hl.1 rfl rfl (Nat.le_of_ble_eq_true rfl) dX5_inverse_22 (fun H locs hP hD hS => ?_)
    refine lv_aload_n hx hb dX5_inverse_25 rfl (lv_at hl 0 rfl) ?_
    refine va_get (D := G.1) (ci := 5) (v := .ref q0_second) (C := RX5) (T := TX5) (N := 7) hx hb hts nX5_inverse_X5 hown hG.1 hP 0 rfl rfl 1 (by decide) (hts _ mX5_inverse_1) (fun _ h9 => h9) rfl dX5_inverse_26 ?_
    obtain ⟨r3, hr3, hf⟩ := bd_use hf
    refine cl_V (wn := (wdX5_inverse G q0 q0_first q0_first_row q0_second q0_second_row q0_third q0_list q0_page q0_single q0_parts r1.2 r2)) (st1 := [.int r3]) C hP hD hS (tX1_plainNumber l G q0_second q0_second_row r2 r3 hr3) (cwV 0 hts gX5_inverse_X1_plainNumber rfl rfl rfl (by decide +kernel) ⟨Nat.le_of_ble_eq_true rfl, Nat.le_of_ble_eq_true rfl⟩) [3, 4] [0, 1, 2] [0, 1, 2, 3, 4] rfl rfl rfl rfl (by decide) rfl rfl (ci := 1) (q0 := 3) rfl rfl rfl rfl hl.1 rfl rfl (Nat.le_of_ble_eq_true rfl) dX5_inverse_29 (fun H locs hP hD hS => ?_)
    cases hf
    exact rt_i C hP hD hS dX5_inverse_32
  · have hf := if_t hc hf
    refine lv_bipush (v := (-2 : Int32)) hx hb dX5_inverse_11 (by decide) ?_
    cases hf
    exact rt_i C hP hD hS dX5_inverse_13
abbrev wdX5_after (G : GX) (q0 : Nat) (q0_first : Nat) (q0_first_row : Nat) (q0_second : Nat) (q0_second_row : Nat) (q0_third : Nat) (q0_third_row : Nat) (q0_list : Nat) (q0_page : Nat) (q0_single : Nat) (q0_parts : Nat) (k0_first_row : Nat → Int32) (k0_second_row : Nat → Int32) (k0_third_row : Nat → Int32) : va_W := [(q0, .inr (5, [.ref q0_first, .ref q0_second, .ref q0_third, .ref q0_list, .ref q0_page, .ref q0_single, .ref q0_parts])), (q0_first, .inr (1, [.ref q0_first_row])), (q0_first_row, .inl (G.2.1, 10, .inl k0_first_row)), (q0_second, .inr (1, [.ref q0_second_row])), (q0_second_row, .inl (G.2.1, 10, .inl k0_second_row)), (q0_third, .inr (1, [.ref q0_third_row])), (q0_third_row, .inl (G.2.1, 10, .inl k0_third_row))]
abbrev rmX5_after : Room := { frames := 2, cells := 0, slots := 0, locals := 47 }
abbrev glX5_after (p : Program) (l : Launch) (e : Env) (s : State) (m : MethodId) (args : Array Value) (below : List Frame) (meth : Method) (c : Code) (G : GX) (A : Nat → Prop) (q0 : Nat) (q0_first : Nat) (q0_first_row : Nat) (q0_second : Nat) (q0_second_row : Nat) (q0_third : Nat) (q0_third_row : Nat) (q0_list : Nat) (q0_page : Nat) (q0_single : Nat) (q0_parts : Nat) (res : Int32 × (Nat → Int32) × (Nat → Int32) × (Nat → Int32)) (H : Heap) (locs : List Loc) (pc : Nat) (ls : Array Slot) (st : List Value) : Prop := W p l e rmX5_after s m args below meth c H locs 0 0 (MQ below (ctQ G A (wdX5_after G q0 q0_first q0_first_row q0_second q0_second_row q0_third q0_third_row q0_list q0_page q0_single q0_parts res.2.1 res.2.2.1 res.2.2.2) (some (.int res.1))) args s 0 0 A) (F0 m pc ls st)
set_option maxRecDepth 20000 in
theorem mX5_after_0 : Cond.fieldLink RX5 12 "SchubertDesk" "first" "LSchubertDesk$Digits;" ∈ wsX5_after := by decide +kernel
set_option maxRecDepth 20000 in
theorem mX5_after_1 : Cond.fieldLink RX5 18 "SchubertDesk" "second" "LSchubertDesk$Digits;" ∈ wsX5_after := by decide +kernel
set_option maxRecDepth 20000 in
theorem mX5_after_2 : Cond.fieldLink RX5 21 "SchubertDesk" "third" "LSchubertDesk$Digits;" ∈ wsX5_after := by decide +kernel
set_option maxRecDepth 20000 in
theorem nX5_after_X5 : ∀ w ∈ u_ws RX5 TX5 7, w ∈ wsX5_after := by decide +kernel
set_option maxHeartbeats 4000000 in
set_option maxRecDepth 100000 in
theorem tX5_after (l : Launch) (G : GX) (q0 : Nat) (q0_first : Nat) (q0_first_row : Nat) (q0_second : Nat) (q0_second_row : Nat) (q0_third : Nat) (q0_third_row : Nat) (q0_list : Nat) (q0_page : Nat) (q0_single : Nat) (q0_parts : Nat) (k0_first_row : Nat → Int32) (k0_second_row : Nat → Int32) (k0_third_row : Nat → Int32) (p1 : Int32) (p2 : Int32) (res : Int32 × (Nat → Int32) × (Nat → Int32) × (Nat → Int32)) (hf : fX5_after k0_first_row k0_second_row k0_third_row p1 p2 = some res) : Ct l yX5_after wsX5_after rmX5_after G [.ref q0, .int p1, .int p2] (wdX5_after G q0 q0_first q0_first_row q0_second q0_second_row q0_third q0_third_row q0_list q0_page q0_single q0_parts k0_first_row k0_second_row k0_third_row) (wdX5_after G q0 q0_first q0_first_row q0_second q0_second_row q0_third q0_third_row q0_list q0_page q0_single q0_parts res.2.1 res.2.2.1 res.2.2.2) (some (.int res.1)) := by
  refine Ct.of (cc := cX5_after) (nL := 3) (ret := (some .int)) (by decide) rfl (Nat.le_of_ble_eq_true rfl) rfl ?_
  intro p e s m below meth c A ls C hP hD hl
  obtain ⟨hx, hb, hml, hown, hts, hr, hlocks, hA, hG⟩ := id C
  have hS : va_S A s.heap s.heap [] := va_S.rf
  unfold fX5_after at hf
  refine lv_aload_n hx hb dX5_after_0 rfl (lv_at hl 0 rfl) ?_
  refine va_get (D := G.1) (ci := 5) (v := .ref q0_first) (C := RX5) (T := TX5) (N := 7) hx hb hts nX5_after_X5 hown hG.1 hP 0 rfl rfl 0 (by decide) (hts _ mX5_after_0) (fun _ h9 => h9) rfl dX5_after_1 ?_
  refine lv_iload_n hx hb dX5_after_4 rfl (lv_at hl 1 rfl) ?_
  obtain ⟨r1, hr1, hf⟩ := bd_use hf
  refine cl_V (wn := (wdX5_after G q0 q0_first q0_first_row q0_second q0_second_row q0_third q0_third_row q0_list q0_page q0_single q0_parts r1.2 k0_second_row k0_third_row)) (st1 := [.int r1.1]) C hP hD hS (tX1_read l G q0_first q0_first_row k0_first_row p1 r1 hr1) (cwV 1 hts gX5_after_X1_read rfl rfl rfl (by decide +kernel) ⟨Nat.le_of_ble_eq_true rfl, Nat.le_of_ble_eq_true rfl⟩) [1, 2] [0, 3, 4, 5, 6] [0, 5, 6, 1, 2, 3, 4] rfl rfl rfl rfl (by decide) rfl rfl (ci := 1) (q0 := 1) rfl rfl rfl rfl hl.1 rfl rfl (Nat.le_of_ble_eq_true rfl) dX5_after_5 (fun H locs hP hD hS => ?_)
  refine lv_if_eq (tgt := 22) hx hb dX5_after_8 (by decide) (fun hc => ?_) (fun hc => ?_)
  · have hf := if_t hc hf
    refine lv_bipush (v := (-2 : Int32)) hx hb dX5_after_22 (by decide) ?_
    cases hf
    exact rt_i C hP hD hS dX5_after_24
  · have hf := if_f hc hf
    refine lv_aload_n hx hb dX5_after_11 rfl (lv_at hl 0 rfl) ?_
    refine va_get (D := G.1) (ci := 5) (v := .ref q0_second) (C := RX5) (T := TX5) (N := 7) hx hb hts nX5_after_X5 hown hG.1 hP 0 rfl rfl 1 (by decide) (hts _ mX5_after_1) (fun _ h9 => h9) rfl dX5_after_12 ?_
    refine lv_iload_n hx hb dX5_after_15 rfl (lv_at hl 2 rfl) ?_
    obtain ⟨r2, hr2, hf⟩ := bd_use hf
    refine cl_V (wn := (wdX5_after G q0 q0_first q0_first_row q0_second q0_second_row q0_third q0_third_row q0_list q0_page q0_single q0_parts r1.2 r2.2 k0_third_row)) (st1 := [.int r2.1]) C hP hD hS (tX1_read l G q0_second q0_second_row k0_second_row p2 r2 hr2) (cwV 1 hts gX5_after_X1_read rfl rfl rfl (by decide +kernel) ⟨Nat.le_of_ble_eq_true rfl, Nat.le_of_ble_eq_true rfl⟩) [3, 4] [0, 1, 2, 5, 6] [0, 1, 2, 5, 6, 3, 4] rfl rfl rfl rfl (by decide) rfl rfl (ci := 1) (q0 := 3) rfl rfl rfl rfl hl.1 rfl rfl (Nat.le_of_ble_eq_true rfl) dX5_after_16 (fun H locs hP hD hS => ?_)
    refine lv_if_ne (tgt := 25) hx hb dX5_after_19 (by decide) (fun hc => ?_) (fun hc => ?_)
    · have hf := if_f hc hf
      refine lv_aload_n hx hb dX5_after_25 rfl (lv_at hl 0 rfl) ?_
      refine va_get (D := G.1) (ci := 5) (v := .ref q0_third) (C := RX5) (T := TX5) (N := 7) hx hb hts nX5_after_X5 hown hG.1 hP 0 rfl rfl 2 (by decide) (hts _ mX5_after_2) (fun _ h9 => h9) rfl dX5_after_26 ?_
      refine lv_aload_n hx hb dX5_after_29 rfl (lv_at hl 0 rfl) ?_
      refine va_get (D := G.1) (ci := 5) (v := .ref q0_first) (C := RX5) (T := TX5) (N := 7) hx hb hts nX5_after_X5 hown hG.1 hP 0 rfl rfl 0 (by decide) (hts _ mX5_after_0) (fun _ h9 => h9) rfl dX5_after_30 ?_
      refine lv_aload_n hx hb dX5_after_33 rfl (lv_at hl 0 rfl) ?_
      refine va_get (D := G.1) (ci := 5) (v := .ref q0_second) (C := RX5) (T := TX5) (N := 7) hx hb hts nX5_after_X5 hown hG.1 hP 0 rfl rfl 1 (by decide) (hts _ mX5_after_1) (fun _ h9 => h9) rfl dX5_after_34 ?_
      obtain ⟨r3, hr3, hf⟩ := bd_use hf
      refine cl_V (wn := (wdX5_after G q0 q0_first q0_first_row q0_second q0_second_row q0_third q0_third_row q0_list q0_page q0_single q0_parts r1.2 r2.2 r3)) (st1 := []) C hP hD hS (tX1_becomeProduct l G q0_third q0_third_row q0_first q0_first_row q0_second q0_second_row k0_third_row r1.2 r2.2 r3 hr3) (cwV 2 hts gX5_after_X1_becomeProduct rfl rfl rfl (by decide +kernel) ⟨Nat.le_of_ble_eq_true rfl, Nat.le_of_ble_eq_true rfl⟩) [5, 6, 1, 2, 3, 4] [0] [0, 3, 4, 5, 6, 1, 2] rfl rfl rfl rfl (by decide) rfl rfl (ci := 1) (q0 := 5) rfl rfl rfl rfl hl.1 rfl rfl (Nat.le_of_ble_eq_true rfl) dX5_after_37 (fun H locs hP hD hS => ?_)
      refine lv_aload_n hx hb dX5_after_40 rfl (lv_at hl 0 rfl) ?_
      refine va_get (D := G.1) (ci := 5) (v := .ref q0_third) (C := RX5) (T := TX5) (N := 7) hx hb hts nX5_after_X5 hown hG.1 hP 0 rfl rfl 2 (by decide) (hts _ mX5_after_2) (fun _ h9 => h9) rfl dX5_after_41 ?_
      obtain ⟨r4, hr4, hf⟩ := bd_use hf
      refine cl_V (wn := (wdX5_after G q0 q0_first q0_first_row q0_second q0_second_row q0_third q0_third_row q0_list q0_page q0_single q0_parts r1.2 r2.2 r3)) (st1 := [.int r4]) C hP hD hS (tX1_plainNumber l G q0_third q0_third_row r3 r4 hr4) (cwV 0 hts gX5_after_X1_plainNumber rfl rfl rfl (by decide +kernel) ⟨Nat.le_of_ble_eq_true rfl, Nat.le_of_ble_eq_true rfl⟩) [5, 6] [0, 1, 2, 3, 4] [0, 1, 2, 3, 4, 5, 6] rfl rfl rfl rfl (by decide) rfl rfl (ci := 1) (q0 := 5) rfl rfl rfl rfl hl.1 rfl rfl (Nat.le_of_ble_eq_true rfl) dX5_after_44 (fun H locs hP hD hS => ?_)
      cases hf
      exact rt_i C hP hD hS dX5_after_47
    · have hf := if_t hc hf
      refine lv_bipush (v := (-2 : Int32)) hx hb dX5_after_22 (by decide) ?_
      cases hf
      exact rt_i C hP hD hS dX5_after_24
abbrev wdX5_ofCode (G : GX) (q0 : Nat) (q0_first : Nat) (q0_first_row : Nat) (q0_second : Nat) (q0_third : Nat) (q0_list : Nat) (q0_page : Nat) (q0_single : Nat) (q0_parts : Nat) (k0_first_row : Nat → Int32) : va_W := [(q0, .inr (5, [.ref q0_first, .ref q0_second, .ref q0_third, .ref q0_list, .ref q0_page, .ref q0_single, .ref q0_parts])), (q0_first, .inr (1, [.ref q0_first_row])), (q0_first_row, .inl (G.2.1, 10, .inl k0_first_row))]
abbrev rmX5_ofCode : Room := { frames := 2, cells := 0, slots := 0, locals := 47 }
abbrev glX5_ofCode (p : Program) (l : Launch) (e : Env) (s : State) (m : MethodId) (args : Array Value) (below : List Frame) (meth : Method) (c : Code) (G : GX) (A : Nat → Prop) (q0 : Nat) (q0_first : Nat) (q0_first_row : Nat) (q0_second : Nat) (q0_third : Nat) (q0_list : Nat) (q0_page : Nat) (q0_single : Nat) (q0_parts : Nat) (res : Int32 × (Nat → Int32)) (H : Heap) (locs : List Loc) (pc : Nat) (ls : Array Slot) (st : List Value) : Prop := W p l e rmX5_ofCode s m args below meth c H locs 0 0 (MQ below (ctQ G A (wdX5_ofCode G q0 q0_first q0_first_row q0_second q0_third q0_list q0_page q0_single q0_parts res.2) (some (.int res.1))) args s 0 0 A) (F0 m pc ls st)
set_option maxRecDepth 20000 in
theorem mX5_ofCode_0 : Cond.fieldLink RX5 12 "SchubertDesk" "first" "LSchubertDesk$Digits;" ∈ wsX5_ofCode := by decide +kernel
set_option maxRecDepth 20000 in
theorem nX5_ofCode_X5 : ∀ w ∈ u_ws RX5 TX5 7, w ∈ wsX5_ofCode := by decide +kernel
set_option maxHeartbeats 4000000 in
set_option maxRecDepth 100000 in
theorem tX5_ofCode (l : Launch) (G : GX) (q0 : Nat) (q0_first : Nat) (q0_first_row : Nat) (q0_second : Nat) (q0_third : Nat) (q0_list : Nat) (q0_page : Nat) (q0_single : Nat) (q0_parts : Nat) (k0_first_row : Nat → Int32) (p1 : Int32) (p2 : Int32) (p3 : Int32) (p4 : Int32) (res : Int32 × (Nat → Int32)) (hf : fX5_ofCode k0_first_row p1 p2 p3 p4 = some res) : Ct l yX5_ofCode wsX5_ofCode rmX5_ofCode G [.ref q0, .int p1, .int p2, .int p3, .int p4] (wdX5_ofCode G q0 q0_first q0_first_row q0_second q0_third q0_list q0_page q0_single q0_parts k0_first_row) (wdX5_ofCode G q0 q0_first q0_first_row q0_second q0_third q0_list q0_page q0_single q0_parts res.2) (some (.int res.1)) := by
  refine Ct.of (cc := cX5_ofCode) (nL := 6) (ret := (some .int)) (by decide) rfl (Nat.le_of_ble_eq_true rfl) rfl ?_
  intro p e s m below meth c A ls C hP hD hl
  obtain ⟨hx, hb, hml, hown, hts, hr, hlocks, hA, hG⟩ := id C
  have hS : va_S A s.heap s.heap [] := va_S.rf
  unfold fX5_ofCode at hf
  refine lv_iload_n hx hb dX5_ofCode_0 rfl (lv_at hl 1 rfl) ?_
  refine lv_iload_n hx hb dX5_ofCode_1 rfl (lv_at hl 2 rfl) ?_
  refine lv_iload_n hx hb dX5_ofCode_2 rfl (lv_at hl 3 rfl) ?_
  refine lv_iload hx hb dX5_ofCode_3 (lv_at hl 4 rfl) ?_
  obtain ⟨r1, hr1, hf⟩ := bd_use hf
  refine cl_S (wn := (wdX5_ofCode G q0 q0_first q0_first_row q0_second q0_third q0_list q0_page q0_single q0_parts k0_first_row)) (st1 := [.int r1]) C hP hD hS (tX5_cellOf l G p1 p2 p3 p4 r1 hr1) (va_cwS 4 hts gX5_ofCode_X5_cellOf rfl rfl rfl (by decide +kernel) ⟨Nat.le_of_ble_eq_true rfl, Nat.le_of_ble_eq_true rfl⟩) [] [0, 1, 2] [0, 1, 2] rfl rfl rfl rfl (by decide) rfl rfl rfl hl.1 rfl rfl (Nat.le_of_ble_eq_true rfl) dX5_ofCode_5 (fun H locs hP hD hS => ?_)
  refine lv_istore (lv' := [(5, .int r1), (0, .ref q0), (1, .int p1), (2, .int p2), (3, .int p3), (4, .int p4)]) hx hb dX5_ofCode_8 hl (by decide) rfl (fun ls hl => ?_)
  refine lv_iload hx hb dX5_ofCode_10 (lv_at hl 0 rfl) ?_
  refine lv_if_ge (tgt := 18) hx hb dX5_ofCode_12 (by decide) (fun hc => ?_) (fun hc => ?_)
  · have hf := if_t hc hf
    refine lv_aload_n hx hb dX5_ofCode_18 rfl (lv_at hl 1 rfl) ?_
    refine va_get (D := G.1) (ci := 5) (v := .ref q0_first) (C := RX5) (T := TX5) (N := 7) hx hb hts nX5_ofCode_X5 hown hG.1 hP 0 rfl rfl 0 (by decide) (hts _ mX5_ofCode_0) (fun _ h9 => h9) rfl dX5_ofCode_19 ?_
    refine lv_iload hx hb dX5_ofCode_22 (lv_at hl 0 rfl) ?_
    obtain ⟨r2, hr2, hf⟩ := bd_use hf
    refine cl_V (wn := (wdX5_ofCode G q0 q0_first q0_first_row q0_second q0_third q0_list q0_page q0_single q0_parts r2)) (st1 := []) C hP hD hS (tX1_becomeOfCode l G q0_first q0_first_row k0_first_row r1 r2 hr2) (cwV 1 hts gX5_ofCode_X1_becomeOfCode rfl rfl rfl (by decide +kernel) ⟨Nat.le_of_ble_eq_true rfl, Nat.le_of_ble_eq_true rfl⟩) [1, 2] [0] [0, 1, 2] rfl rfl rfl rfl (by decide) rfl rfl (ci := 1) (q0 := 1) rfl rfl rfl rfl hl.1 rfl rfl (Nat.le_of_ble_eq_true rfl) dX5_ofCode_24 (fun H locs hP hD hS => ?_)
    refine lv_aload_n hx hb dX5_ofCode_27 rfl (lv_at hl 1 rfl) ?_
    refine va_get (D := G.1) (ci := 5) (v := .ref q0_first) (C := RX5) (T := TX5) (N := 7) hx hb hts nX5_ofCode_X5 hown hG.1 hP 0 rfl rfl 0 (by decide) (hts _ mX5_ofCode_0) (fun _ h9 => h9) rfl dX5_ofCode_28 ?_
    obtain ⟨r3, hr3, hf⟩ := bd_use hf
    refine cl_V (wn := (wdX5_ofCode G q0 q0_first q0_first_row q0_second q0_third q0_list q0_page q0_single q0_parts r2)) (st1 := [.int r3]) C hP hD hS (tX1_plainNumber l G q0_first q0_first_row r2 r3 hr3) (cwV 0 hts gX5_ofCode_X1_plainNumber rfl rfl rfl (by decide +kernel) ⟨Nat.le_of_ble_eq_true rfl, Nat.le_of_ble_eq_true rfl⟩) [1, 2] [0] [0, 1, 2] rfl rfl rfl rfl (by decide) rfl rfl (ci := 1) (q0 := 1) rfl rfl rfl rfl hl.1 rfl rfl (Nat.le_of_ble_eq_true rfl) dX5_ofCode_31 (fun H locs hP hD hS => ?_)
    cases hf
    exact rt_i C hP hD hS dX5_ofCode_34
  · have hf := if_f hc hf
    refine lv_bipush (v := (-2 : Int32)) hx hb dX5_ofCode_15 (by decide) ?_
    cases hf
    exact rt_i C hP hD hS dX5_ofCode_17
abbrev wdX5_below (G : GX) (q0 : Nat) (q0_first : Nat) (q0_first_row : Nat) (q0_second : Nat) (q0_second_row : Nat) (q0_third : Nat) (q0_list : Nat) (q0_page : Nat) (q0_single : Nat) (q0_parts : Nat) (k0_first_row : Nat → Int32) (k0_second_row : Nat → Int32) : va_W := [(q0, .inr (5, [.ref q0_first, .ref q0_second, .ref q0_third, .ref q0_list, .ref q0_page, .ref q0_single, .ref q0_parts])), (q0_first, .inr (1, [.ref q0_first_row])), (q0_first_row, .inl (G.2.1, 10, .inl k0_first_row)), (q0_second, .inr (1, [.ref q0_second_row])), (q0_second_row, .inl (G.2.1, 10, .inl k0_second_row))]
abbrev rmX5_below : Room := { frames := 2, cells := 0, slots := 0, locals := 47 }
abbrev glX5_below (p : Program) (l : Launch) (e : Env) (s : State) (m : MethodId) (args : Array Value) (below : List Frame) (meth : Method) (c : Code) (G : GX) (A : Nat → Prop) (q0 : Nat) (q0_first : Nat) (q0_first_row : Nat) (q0_second : Nat) (q0_second_row : Nat) (q0_third : Nat) (q0_list : Nat) (q0_page : Nat) (q0_single : Nat) (q0_parts : Nat) (res : Int32 × (Nat → Int32) × (Nat → Int32)) (H : Heap) (locs : List Loc) (pc : Nat) (ls : Array Slot) (st : List Value) : Prop := W p l e rmX5_below s m args below meth c H locs 0 0 (MQ below (ctQ G A (wdX5_below G q0 q0_first q0_first_row q0_second q0_second_row q0_third q0_list q0_page q0_single q0_parts res.2.1 res.2.2) (some (.int res.1))) args s 0 0 A) (F0 m pc ls st)
set_option maxRecDepth 20000 in
theorem mX5_below_0 : Cond.fieldLink RX5 12 "SchubertDesk" "first" "LSchubertDesk$Digits;" ∈ wsX5_below := by decide +kernel
set_option maxRecDepth 20000 in
theorem mX5_below_1 : Cond.fieldLink RX5 18 "SchubertDesk" "second" "LSchubertDesk$Digits;" ∈ wsX5_below := by decide +kernel
set_option maxRecDepth 20000 in
theorem nX5_below_X5 : ∀ w ∈ u_ws RX5 TX5 7, w ∈ wsX5_below := by decide +kernel
set_option maxHeartbeats 4000000 in
set_option maxRecDepth 100000 in
theorem tX5_below (l : Launch) (G : GX) (q0 : Nat) (q0_first : Nat) (q0_first_row : Nat) (q0_second : Nat) (q0_second_row : Nat) (q0_third : Nat) (q0_list : Nat) (q0_page : Nat) (q0_single : Nat) (q0_parts : Nat) (k0_first_row : Nat → Int32) (k0_second_row : Nat → Int32) (p1 : Int32) (p2 : Int32) (res : Int32 × (Nat → Int32) × (Nat → Int32)) (hf : fX5_below k0_first_row k0_second_row p1 p2 = some res) : Ct l yX5_below wsX5_below rmX5_below G [.ref q0, .int p1, .int p2] (wdX5_below G q0 q0_first q0_first_row q0_second q0_second_row q0_third q0_list q0_page q0_single q0_parts k0_first_row k0_second_row) (wdX5_below G q0 q0_first q0_first_row q0_second q0_second_row q0_third q0_list q0_page q0_single q0_parts res.2.1 res.2.2) (some (.int res.1)) := by
  refine Ct.of (cc := cX5_below) (nL := 3) (ret := (some .int)) (by decide) rfl (Nat.le_of_ble_eq_true rfl) rfl ?_
  intro p e s m below meth c A ls C hP hD hl
  obtain ⟨hx, hb, hml, hown, hts, hr, hlocks, hA, hG⟩ := id C
  have hS : va_S A s.heap s.heap [] := va_S.rf
  unfold fX5_below at hf
  refine lv_aload_n hx hb dX5_below_0 rfl (lv_at hl 0 rfl) ?_
  refine va_get (D := G.1) (ci := 5) (v := .ref q0_first) (C := RX5) (T := TX5) (N := 7) hx hb hts nX5_below_X5 hown hG.1 hP 0 rfl rfl 0 (by decide) (hts _ mX5_below_0) (fun _ h9 => h9) rfl dX5_below_1 ?_
  refine lv_iload_n hx hb dX5_below_4 rfl (lv_at hl 1 rfl) ?_
  obtain ⟨r1, hr1, hf⟩ := bd_use hf
  refine cl_V (wn := (wdX5_below G q0 q0_first q0_first_row q0_second q0_second_row q0_third q0_list q0_page q0_single q0_parts r1.2 k0_second_row)) (st1 := [.int r1.1]) C hP hD hS (tX1_read l G q0_first q0_first_row k0_first_row p1 r1 hr1) (cwV 1 hts gX5_below_X1_read rfl rfl rfl (by decide +kernel) ⟨Nat.le_of_ble_eq_true rfl, Nat.le_of_ble_eq_true rfl⟩) [1, 2] [0, 3, 4] [0, 3, 4, 1, 2] rfl rfl rfl rfl (by decide) rfl rfl (ci := 1) (q0 := 1) rfl rfl rfl rfl hl.1 rfl rfl (Nat.le_of_ble_eq_true rfl) dX5_below_5 (fun H locs hP hD hS => ?_)
  refine lv_if_eq (tgt := 22) hx hb dX5_below_8 (by decide) (fun hc => ?_) (fun hc => ?_)
  · have hf := if_t hc hf
    refine lv_bipush (v := (-2 : Int32)) hx hb dX5_below_22 (by decide) ?_
    cases hf
    exact rt_i C hP hD hS dX5_below_24
  · have hf := if_f hc hf
    refine lv_aload_n hx hb dX5_below_11 rfl (lv_at hl 0 rfl) ?_
    refine va_get (D := G.1) (ci := 5) (v := .ref q0_second) (C := RX5) (T := TX5) (N := 7) hx hb hts nX5_below_X5 hown hG.1 hP 0 rfl rfl 1 (by decide) (hts _ mX5_below_1) (fun _ h9 => h9) rfl dX5_below_12 ?_
    refine lv_iload_n hx hb dX5_below_15 rfl (lv_at hl 2 rfl) ?_
    obtain ⟨r2, hr2, hf⟩ := bd_use hf
    refine cl_V (wn := (wdX5_below G q0 q0_first q0_first_row q0_second q0_second_row q0_third q0_list q0_page q0_single q0_parts r1.2 r2.2)) (st1 := [.int r2.1]) C hP hD hS (tX1_read l G q0_second q0_second_row k0_second_row p2 r2 hr2) (cwV 1 hts gX5_below_X1_read rfl rfl rfl (by decide +kernel) ⟨Nat.le_of_ble_eq_true rfl, Nat.le_of_ble_eq_true rfl⟩) [3, 4] [0, 1, 2] [0, 1, 2, 3, 4] rfl rfl rfl rfl (by decide) rfl rfl (ci := 1) (q0 := 3) rfl rfl rfl rfl hl.1 rfl rfl (Nat.le_of_ble_eq_true rfl) dX5_below_16 (fun H locs hP hD hS => ?_)
    refine lv_if_ne (tgt := 25) hx hb dX5_below_19 (by decide) (fun hc => ?_) (fun hc => ?_)
    · have hf := if_f hc hf
      refine lv_aload_n hx hb dX5_below_25 rfl (lv_at hl 0 rfl) ?_
      refine va_get (D := G.1) (ci := 5) (v := .ref q0_first) (C := RX5) (T := TX5) (N := 7) hx hb hts nX5_below_X5 hown hG.1 hP 0 rfl rfl 0 (by decide) (hts _ mX5_below_0) (fun _ h9 => h9) rfl dX5_below_26 ?_
      refine lv_aload_n hx hb dX5_below_29 rfl (lv_at hl 0 rfl) ?_
      refine va_get (D := G.1) (ci := 5) (v := .ref q0_second) (C := RX5) (T := TX5) (N := 7) hx hb hts nX5_below_X5 hown hG.1 hP 0 rfl rfl 1 (by decide) (hts _ mX5_below_1) (fun _ h9 => h9) rfl dX5_below_30 ?_
      obtain ⟨r3, hr3, hf⟩ := bd_use hf
      refine cl_V (wn := (wdX5_below G q0 q0_first q0_first_row q0_second q0_second_row q0_third q0_list q0_page q0_single q0_parts r1.2 r2.2)) (st1 := [.int r3]) C hP hD hS (tX1_isBelow l G q0_first q0_first_row q0_second q0_second_row r1.2 r2.2 r3 hr3) (cwV 1 hts gX5_below_X1_isBelow rfl rfl rfl (by decide +kernel) ⟨Nat.le_of_ble_eq_true rfl, Nat.le_of_ble_eq_true rfl⟩) [1, 2, 3, 4] [0] [0, 1, 2, 3, 4] rfl rfl rfl rfl (by decide) rfl rfl (ci := 1) (q0 := 1) rfl rfl rfl rfl hl.1 rfl rfl (Nat.le_of_ble_eq_true rfl) dX5_below_33 (fun H locs hP hD hS => ?_)
      refine lv_if_eq (tgt := 43) hx hb dX5_below_36 (by decide) (fun hc => ?_) (fun hc => ?_)
      · have hf := if_t hc hf
        refine lv_iconst (v := (0 : Int32)) hx hb dX5_below_43 (by decide) ?_
        cases hf
        exact rt_i C hP hD hS dX5_below_44
      · have hf := if_f hc hf
        refine lv_iconst (v := (1 : Int32)) hx hb dX5_below_39 (by decide) ?_
        refine lv_goto (tgt := 44) hx hb dX5_below_40 (by decide) ?_
        cases hf
        exact rt_i C hP hD hS dX5_below_44
    · have hf := if_t hc hf
      refine lv_bipush (v := (-2 : Int32)) hx hb dX5_below_22 (by decide) ?_
      cases hf
      exact rt_i C hP hD hS dX5_below_24
abbrev wdX5_waysDown (G : GX) (q0 : Nat) (q0_row : Nat) (k0_row : Nat → Int32) : va_W := [(q0, .inr (1, [.ref q0_row])), (q0_row, .inl (G.2.1, 10, .inl k0_row))]
abbrev rmX5_waysDown (d : Nat) : Room := { frames := 2 + d, cells := 0, slots := 0, locals := 45 + 24 * d }
abbrev glX5_waysDown (p : Program) (l : Launch) (e : Env) (s : State) (m : MethodId) (args : Array Value) (below : List Frame) (meth : Method) (c : Code) (G : GX) (A : Nat → Prop) (d : Nat) (q0 : Nat) (q0_row : Nat) (res : Int32 × (Nat → Int32)) (H : Heap) (locs : List Loc) (pc : Nat) (ls : Array Slot) (st : List Value) : Prop := W p l e (rmX5_waysDown (d + 1)) s m args below meth c H locs 0 0 (MQ below (ctQ G A (wdX5_waysDown G q0 q0_row res.2) (some (.int res.1))) args s 0 0 A) (F0 m pc ls st)
set_option maxHeartbeats 4000000 in
set_option maxRecDepth 100000 in
theorem wX5_waysDown_15 {p : Program} {l : Launch} {e : Env} {s : State} {m : MethodId} {args : Array Value} {below : List Frame} {meth : Method} {c : Code} {G : GX} {A : Nat → Prop} (C : Cx p s m args meth c cX5_waysDown 5 (some .int) wsX5_waysDown RX5 G A) (q0 : Nat) (q0_row : Nat) (p1 : Int32) (d : Nat) (self : (Nat → Int32) → Int32 → Option (Int32 × (Nat → Int32))) (hself : ∀ (k0_row : Nat → Int32) (p1 : Int32) (res : Int32 × (Nat → Int32)), self k0_row p1 = some res → Ct l yX5_waysDown wsX5_waysDown (rmX5_waysDown d) G [.ref q0, .int p1] (wdX5_waysDown G q0 q0_row k0_row) (wdX5_waysDown G q0 q0_row res.2) (some (.int res.1))) (res : Int32 × (Nat → Int32)) (n : Nat) : ∀ (k0_row : Nat → Int32) (x2 : Int32) (x3 : Int32) (x4 : Int32) (H : Heap) (locs : List Loc) (ls : Array Slot), fX5_waysDown_L15 self p1 n k0_row x2 x3 x4 = some res → va_P G.1 vwCl (wdX5_waysDown G q0 q0_row k0_row) H → va_D A (wdX5_waysDown G q0 q0_row k0_row) → va_S A s.heap H locs → lv_has ls 5 [(0, .ref q0), (1, .int p1), (2, .int x2), (3, .int x3), (4, .int x4)] → glX5_waysDown p l e s m args below meth c G A d q0 q0_row res H locs 15 ls [] := by
  obtain ⟨hx, hb, hml, hown, hts, hr, hlocks, hA, hG⟩ := id C
  induction n with
  | zero => intro k0_row x2 x3 x4 H locs ls hf hP hD hS hl; cases hf
  | succ n ih =>
    intro k0_row x2 x3 x4 H locs ls hf hP hD hS hl
    simp only [fX5_waysDown_L15] at hf
    refine lv_iload hx hb dX5_waysDown_15 (lv_at hl 4 rfl) ?_
    refine lv_iconst (v := (5 : Int32)) hx hb dX5_waysDown_17 (by decide) ?_
    refine lv_icmp_ge (tgt := 76) hx hb dX5_waysDown_18 (by decide) (fun hc => ?_) (fun hc => ?_)
    · have hf := if_t hc hf
      refine lv_iload_n hx hb dX5_waysDown_76 rfl (lv_at hl 3 rfl) ?_
      refine lv_if_eq (tgt := 84) hx hb dX5_waysDown_77 (by decide) (fun hc => ?_) (fun hc => ?_)
      · have hf := if_t hc hf
        refine lv_iload_n hx hb dX5_waysDown_84 rfl (lv_at hl 2 rfl) ?_
        cases hf
        exact rt_i C hP hD hS dX5_waysDown_85
      · have hf := if_f hc hf
        refine lv_iconst (v := (1 : Int32)) hx hb dX5_waysDown_80 (by decide) ?_
        refine lv_goto (tgt := 85) hx hb dX5_waysDown_81 (by decide) ?_
        cases hf
        exact rt_i C hP hD hS dX5_waysDown_85
    · have hf := if_f hc hf
      refine lv_aload_n hx hb dX5_waysDown_21 rfl (lv_at hl 0 rfl) ?_
      refine lv_iload hx hb dX5_waysDown_22 (lv_at hl 4 rfl) ?_
      obtain ⟨r1, hr1, hf⟩ := bd_use hf
      refine cl_V (wn := (wdX5_waysDown G q0 q0_row k0_row)) (st1 := [.int r1]) C hP hD hS (tX1_digit l G q0 q0_row k0_row x4 r1 hr1) (cwV 1 hts gX5_waysDown_X1_digit rfl rfl rfl (by decide +kernel) ⟨by dsimp only [rmX5_waysDown, rmX1_digit]; omega, by dsimp only [rmX5_waysDown, rmX1_digit]; omega⟩) [0, 1] [] [0, 1] rfl rfl rfl rfl (by decide) rfl rfl (ci := 1) (q0 := 0) rfl rfl rfl rfl hl.1 rfl rfl (Nat.le_of_ble_eq_true rfl) dX5_waysDown_24 (fun H locs hP hD hS => ?_)
      refine lv_aload_n hx hb dX5_waysDown_27 rfl (lv_at hl 0 rfl) ?_
      refine lv_iload hx hb dX5_waysDown_28 (lv_at hl 4 rfl) ?_
      refine lv_iconst (v := (1 : Int32)) hx hb dX5_waysDown_30 (by decide) ?_
      refine lv_iadd hx hb dX5_waysDown_31 ?_
      obtain ⟨r2, hr2, hf⟩ := bd_use hf
      refine cl_V (wn := (wdX5_waysDown G q0 q0_row k0_row)) (st1 := [.int r2, .int r1]) C hP hD hS (tX1_digit l G q0 q0_row k0_row (x4 + (1 : Int32)) r2 hr2) (cwV 1 hts gX5_waysDown_X1_digit rfl rfl rfl (by decide +kernel) ⟨by dsimp only [rmX5_waysDown, rmX1_digit]; omega, by dsimp only [rmX5_waysDown, rmX1_digit]; omega⟩) [0, 1] [] [0, 1] rfl rfl rfl rfl (by decide) rfl rfl (ci := 1) (q0 := 0) rfl rfl rfl rfl hl.1 rfl rfl (Nat.le_of_ble_eq_true rfl) dX5_waysDown_32 (fun H locs hP hD hS => ?_)
      refine lv_icmp_le (tgt := 70) hx hb dX5_waysDown_35 (by decide) (fun hc => ?_) (fun hc => ?_)
      · have hf := if_t hc hf
        obtain ⟨y3, ey3⟩ : ∃ z : Int32, z = x4 + (1 : Int32) := ⟨_, rfl⟩
        have hf := nm_use ey3 hf
        refine lv_iinc (v := y3) (lv' := [(4, .int y3), (0, .ref q0), (1, .int p1), (2, .int x2), (3, .int x3)]) hx hb dX5_waysDown_70 hl (k := 4) rfl (by rw [ey3]; rfl) (by decide) rfl (fun ls hl => ?_)
        refine lv_goto (tgt := 15) hx hb dX5_waysDown_73 (by decide) ?_
        exact ih k0_row x2 x3 y3 _ _ ls hf hP hD hS (lv_sub hl [1, 2, 3, 4, 0] rfl)
      · have hf := if_f hc hf
        refine lv_iconst (v := (0 : Int32)) hx hb dX5_waysDown_38 (by decide) ?_
        refine lv_istore_n (lv' := [(3, .int (0 : Int32)), (0, .ref q0), (1, .int p1), (2, .int x2), (4, .int x4)]) hx hb dX5_waysDown_39 rfl hl (by decide) rfl (fun ls hl => ?_)
        refine lv_aload_n hx hb dX5_waysDown_40 rfl (lv_at hl 1 rfl) ?_
        refine lv_iload hx hb dX5_waysDown_41 (lv_at hl 4 rfl) ?_
        refine lv_iload hx hb dX5_waysDown_43 (lv_at hl 4 rfl) ?_
        refine lv_iconst (v := (1 : Int32)) hx hb dX5_waysDown_45 (by decide) ?_
        refine lv_iadd hx hb dX5_waysDown_46 ?_
        obtain ⟨r4, hr4, hf⟩ := bd_use hf
        refine cl_V (wn := (wdX5_waysDown G q0 q0_row r4)) (st1 := []) C hP hD hS (tX1_exchange l G q0 q0_row k0_row x4 (x4 + (1 : Int32)) r4 hr4) (cwV 2 hts gX5_waysDown_X1_exchange rfl rfl rfl (by decide +kernel) ⟨by dsimp only [rmX5_waysDown, rmX1_exchange]; omega, by dsimp only [rmX5_waysDown, rmX1_exchange]; omega⟩) [0, 1] [] [0, 1] rfl rfl rfl rfl (by decide) rfl rfl (ci := 1) (q0 := 0) rfl rfl rfl rfl hl.1 rfl rfl (Nat.le_of_ble_eq_true rfl) dX5_waysDown_47 (fun H locs hP hD hS => ?_)
        refine lv_iload_n hx hb dX5_waysDown_50 rfl (lv_at hl 3 rfl) ?_
        refine lv_aload_n hx hb dX5_waysDown_51 rfl (lv_at hl 1 rfl) ?_
        refine lv_iload_n hx hb dX5_waysDown_52 rfl (lv_at hl 2 rfl) ?_
        refine lv_iconst (v := (1 : Int32)) hx hb dX5_waysDown_53 (by decide) ?_
        refine lv_iadd hx hb dX5_waysDown_54 ?_
        obtain ⟨r5, hr5, hf⟩ := bd_use hf
        refine cl_S (wn := (wdX5_waysDown G q0 q0_row r5.2)) (st1 := [.int r5.1, .int x2]) C hP hD hS (hself r4 (p1 + (1 : Int32)) r5 hr5) (va_cwS 2 hts gX5_waysDown_X5_waysDown rfl rfl rfl (by decide +kernel) ⟨by dsimp only [rmX5_waysDown, rmX5_waysDown]; omega, by dsimp only [rmX5_waysDown, rmX5_waysDown]; omega⟩) [0, 1] [] [0, 1] rfl rfl rfl rfl (by decide) rfl rfl rfl hl.1 rfl rfl (Nat.le_of_ble_eq_true rfl) dX5_waysDown_55 (fun H locs hP hD hS => ?_)
        refine lv_iadd hx hb dX5_waysDown_58 ?_
        refine lv_topi (fun y6 ey6 => ?_)
        have hf := nm_use ey6 hf
        refine lv_istore_n (lv' := [(2, .int y6), (3, .int (0 : Int32)), (0, .ref q0), (1, .int p1), (4, .int x4)]) hx hb dX5_waysDown_59 rfl hl (by decide) rfl (fun ls hl => ?_)
        refine lv_aload_n hx hb dX5_waysDown_60 rfl (lv_at hl 2 rfl) ?_
        refine lv_iload hx hb dX5_waysDown_61 (lv_at hl 4 rfl) ?_
        refine lv_iload hx hb dX5_waysDown_63 (lv_at hl 4 rfl) ?_
        refine lv_iconst (v := (1 : Int32)) hx hb dX5_waysDown_65 (by decide) ?_
        refine lv_iadd hx hb dX5_waysDown_66 ?_
        obtain ⟨r7, hr7, hf⟩ := bd_use hf
        refine cl_V (wn := (wdX5_waysDown G q0 q0_row r7)) (st1 := []) C hP hD hS (tX1_exchange l G q0 q0_row r5.2 x4 (x4 + (1 : Int32)) r7 hr7) (cwV 2 hts gX5_waysDown_X1_exchange rfl rfl rfl (by decide +kernel) ⟨by dsimp only [rmX5_waysDown, rmX1_exchange]; omega, by dsimp only [rmX5_waysDown, rmX1_exchange]; omega⟩) [0, 1] [] [0, 1] rfl rfl rfl rfl (by decide) rfl rfl (ci := 1) (q0 := 0) rfl rfl rfl rfl hl.1 rfl rfl (Nat.le_of_ble_eq_true rfl) dX5_waysDown_67 (fun H locs hP hD hS => ?_)
        obtain ⟨y8, ey8⟩ : ∃ z : Int32, z = x4 + (1 : Int32) := ⟨_, rfl⟩
        have hf := nm_use ey8 hf
        refine lv_iinc (v := y8) (lv' := [(4, .int y8), (2, .int y6), (3, .int (0 : Int32)), (0, .ref q0), (1, .int p1)]) hx hb dX5_waysDown_70 hl (k := 4) rfl (by rw [ey8]; rfl) (by decide) rfl (fun ls hl => ?_)
        refine lv_goto (tgt := 15) hx hb dX5_waysDown_73 (by decide) ?_
        exact ih r7 y6 (0 : Int32) y8 _ _ ls hf hP hD hS (lv_sub hl [3, 4, 1, 2, 0] rfl)
set_option maxHeartbeats 4000000 in
set_option maxRecDepth 100000 in
theorem tX5_waysDown (l : Launch) (G : GX) (q0 : Nat) (q0_row : Nat) (d : Nat) : ∀ (k0_row : Nat → Int32) (p1 : Int32) (res : Int32 × (Nat → Int32)), fX5_waysDown d k0_row p1 = some res → Ct l yX5_waysDown wsX5_waysDown (rmX5_waysDown d) G [.ref q0, .int p1] (wdX5_waysDown G q0 q0_row k0_row) (wdX5_waysDown G q0 q0_row res.2) (some (.int res.1)) := by
  induction d with
  | zero => intro k0_row p1 res hf; cases hf
  | succ d hself =>
  intro k0_row p1 res hf
  refine Ct.of (cc := cX5_waysDown) (nL := 5) (ret := (some .int)) (by decide) rfl (Nat.le_of_ble_eq_true rfl) rfl ?_
  intro p e s m below meth c A ls C hP hD hl
  obtain ⟨hx, hb, hml, hown, hts, hr, hlocks, hA, hG⟩ := id C
  have hS : va_S A s.heap s.heap [] := va_S.rf
  simp only [fX5_waysDown] at hf
  unfold fX5_waysDown_body at hf
  generalize fX5_waysDown d = self at hself hf
  refine lv_iload_n hx hb dX5_waysDown_0 rfl (lv_at hl 1 rfl) ?_
  refine lv_bipush (v := (10 : Int32)) hx hb dX5_waysDown_1 (by decide) ?_
  refine lv_icmp_le (tgt := 8) hx hb dX5_waysDown_3 (by decide) (fun hc => ?_) (fun hc => ?_)
  · have hf := if_t hc hf
    refine lv_iconst (v := (0 : Int32)) hx hb dX5_waysDown_8 (by decide) ?_
    refine lv_istore_n (lv' := [(2, .int (0 : Int32)), (0, .ref q0), (1, .int p1)]) hx hb dX5_waysDown_9 rfl hl (by decide) rfl (fun ls hl => ?_)
    refine lv_iconst (v := (1 : Int32)) hx hb dX5_waysDown_10 (by decide) ?_
    refine lv_istore_n (lv' := [(3, .int (1 : Int32)), (2, .int (0 : Int32)), (0, .ref q0), (1, .int p1)]) hx hb dX5_waysDown_11 rfl hl (by decide) rfl (fun ls hl => ?_)
    refine lv_iconst (v := (1 : Int32)) hx hb dX5_waysDown_12 (by decide) ?_
    refine lv_istore (lv' := [(4, .int (1 : Int32)), (3, .int (1 : Int32)), (2, .int (0 : Int32)), (0, .ref q0), (1, .int p1)]) hx hb dX5_waysDown_13 hl (by decide) rfl (fun ls hl => ?_)
    exact wX5_waysDown_15 C q0 q0_row p1 d self hself res fu k0_row (0 : Int32) (1 : Int32) (1 : Int32) _ _ ls hf hP hD hS (lv_sub hl [3, 4, 2, 1, 0] rfl)
  · have hf := if_f hc hf
    refine lv_iconst (v := (0 : Int32)) hx hb dX5_waysDown_6 (by decide) ?_
    cases hf
    exact rt_i C hP hD hS dX5_waysDown_7
abbrev wdX5_words (G : GX) (q0 : Nat) (q0_first : Nat) (q0_first_row : Nat) (q0_second : Nat) (q0_third : Nat) (q0_list : Nat) (q0_page : Nat) (q0_single : Nat) (q0_parts : Nat) (k0_first_row : Nat → Int32) : va_W := [(q0, .inr (5, [.ref q0_first, .ref q0_second, .ref q0_third, .ref q0_list, .ref q0_page, .ref q0_single, .ref q0_parts])), (q0_first, .inr (1, [.ref q0_first_row])), (q0_first_row, .inl (G.2.1, 10, .inl k0_first_row))]
abbrev rmX5_words : Room := { frames := 15, cells := 0, slots := 0, locals := 357 }
abbrev glX5_words (p : Program) (l : Launch) (e : Env) (s : State) (m : MethodId) (args : Array Value) (below : List Frame) (meth : Method) (c : Code) (G : GX) (A : Nat → Prop) (q0 : Nat) (q0_first : Nat) (q0_first_row : Nat) (q0_second : Nat) (q0_third : Nat) (q0_list : Nat) (q0_page : Nat) (q0_single : Nat) (q0_parts : Nat) (res : Int32 × (Nat → Int32)) (H : Heap) (locs : List Loc) (pc : Nat) (ls : Array Slot) (st : List Value) : Prop := W p l e rmX5_words s m args below meth c H locs 0 0 (MQ below (ctQ G A (wdX5_words G q0 q0_first q0_first_row q0_second q0_third q0_list q0_page q0_single q0_parts res.2) (some (.int res.1))) args s 0 0 A) (F0 m pc ls st)
set_option maxRecDepth 20000 in
theorem mX5_words_0 : Cond.fieldLink RX5 12 "SchubertDesk" "first" "LSchubertDesk$Digits;" ∈ wsX5_words := by decide +kernel
set_option maxRecDepth 20000 in
theorem nX5_words_X5 : ∀ w ∈ u_ws RX5 TX5 7, w ∈ wsX5_words := by decide +kernel
set_option maxHeartbeats 4000000 in
set_option maxRecDepth 100000 in
theorem tX5_words (l : Launch) (G : GX) (q0 : Nat) (q0_first : Nat) (q0_first_row : Nat) (q0_second : Nat) (q0_third : Nat) (q0_list : Nat) (q0_page : Nat) (q0_single : Nat) (q0_parts : Nat) (k0_first_row : Nat → Int32) (p1 : Int32) (res : Int32 × (Nat → Int32)) (hf : fX5_words k0_first_row p1 = some res) : Ct l yX5_words wsX5_words rmX5_words G [.ref q0, .int p1] (wdX5_words G q0 q0_first q0_first_row q0_second q0_third q0_list q0_page q0_single q0_parts k0_first_row) (wdX5_words G q0 q0_first q0_first_row q0_second q0_third q0_list q0_page q0_single q0_parts res.2) (some (.int res.1)) := by
  refine Ct.of (cc := cX5_words) (nL := 2) (ret := (some .int)) (by decide) rfl (Nat.le_of_ble_eq_true rfl) rfl ?_
  intro p e s m below meth c A ls C hP hD hl
  obtain ⟨hx, hb, hml, hown, hts, hr, hlocks, hA, hG⟩ := id C
  have hS : va_S A s.heap s.heap [] := va_S.rf
  unfold fX5_words at hf
  refine lv_aload_n hx hb dX5_words_0 rfl (lv_at hl 0 rfl) ?_
  refine va_get (D := G.1) (ci := 5) (v := .ref q0_first) (C := RX5) (T := TX5) (N := 7) hx hb hts nX5_words_X5 hown hG.1 hP 0 rfl rfl 0 (by decide) (hts _ mX5_words_0) (fun _ h9 => h9) rfl dX5_words_1 ?_
  refine lv_iload_n hx hb dX5_words_4 rfl (lv_at hl 1 rfl) ?_
  obtain ⟨r1, hr1, hf⟩ := bd_use hf
  refine cl_V (wn := (wdX5_words G q0 q0_first q0_first_row q0_second q0_third q0_list q0_page q0_single q0_parts r1.2)) (st1 := [.int r1.1]) C hP hD hS (tX1_read l G q0_first q0_first_row k0_first_row p1 r1 hr1) (cwV 1 hts gX5_words_X1_read rfl rfl rfl (by decide +kernel) ⟨Nat.le_of_ble_eq_true rfl, Nat.le_of_ble_eq_true rfl⟩) [1, 2] [0] [0, 1, 2] rfl rfl rfl rfl (by decide) rfl rfl (ci := 1) (q0 := 1) rfl rfl rfl rfl hl.1 rfl rfl (Nat.le_of_ble_eq_true rfl) dX5_words_5 (fun H locs hP hD hS => ?_)
  refine lv_if_ne (tgt := 14) hx hb dX5_words_8 (by decide) (fun hc => ?_) (fun hc => ?_)
  · have hf := if_f hc hf
    refine lv_aload_n hx hb dX5_words_14 rfl (lv_at hl 0 rfl) ?_
    refine va_get (D := G.1) (ci := 5) (v := .ref q0_first) (C := RX5) (T := TX5) (N := 7) hx hb hts nX5_words_X5 hown hG.1 hP 0 rfl rfl 0 (by decide) (hts _ mX5_words_0) (fun _ h9 => h9) rfl dX5_words_15 ?_
    obtain ⟨r2, hr2, hf⟩ := bd_use hf
    refine cl_V (wn := (wdX5_words G q0 q0_first q0_first_row q0_second q0_third q0_list q0_page q0_single q0_parts r1.2)) (st1 := [.int r2]) C hP hD hS (tX1_isSmall l G q0_first q0_first_row r1.2 r2 hr2) (cwV 0 hts gX5_words_X1_isSmall rfl rfl rfl (by decide +kernel) ⟨Nat.le_of_ble_eq_true rfl, Nat.le_of_ble_eq_true rfl⟩) [1, 2] [0] [0, 1, 2] rfl rfl rfl rfl (by decide) rfl rfl (ci := 1) (q0 := 1) rfl rfl rfl rfl hl.1 rfl rfl (Nat.le_of_ble_eq_true rfl) dX5_words_18 (fun H locs hP hD hS => ?_)
    refine lv_if_eq (tgt := 35) hx hb dX5_words_21 (by decide) (fun hc => ?_) (fun hc => ?_)
    · have hf := if_t hc hf
      refine lv_bipush (v := (-3 : Int32)) hx hb dX5_words_35 (by decide) ?_
      cases hf
      exact rt_i C hP hD hS dX5_words_37
    · have hf := if_f hc hf
      refine lv_aload_n hx hb dX5_words_24 rfl (lv_at hl 0 rfl) ?_
      refine va_get (D := G.1) (ci := 5) (v := .ref q0_first) (C := RX5) (T := TX5) (N := 7) hx hb hts nX5_words_X5 hown hG.1 hP 0 rfl rfl 0 (by decide) (hts _ mX5_words_0) (fun _ h9 => h9) rfl dX5_words_25 ?_
      refine lv_iconst (v := (0 : Int32)) hx hb dX5_words_28 (by decide) ?_
      obtain ⟨r3, hr3, hf⟩ := bd_use hf
      refine cl_S (wn := (wdX5_words G q0 q0_first q0_first_row q0_second q0_third q0_list q0_page q0_single q0_parts r3.2)) (st1 := [.int r3.1]) C hP hD hS (tX5_waysDown l G q0_first q0_first_row 12 r1.2 (0 : Int32) r3 hr3) (va_cwS 2 hts gX5_words_X5_waysDown rfl rfl rfl (by decide +kernel) ⟨Nat.le_of_ble_eq_true rfl, Nat.le_of_ble_eq_true rfl⟩) [1, 2] [0] [0, 1, 2] rfl rfl rfl rfl (by decide) rfl rfl rfl hl.1 rfl rfl (Nat.le_of_ble_eq_true rfl) dX5_words_29 (fun H locs hP hD hS => ?_)
      refine lv_goto (tgt := 37) hx hb dX5_words_32 (by decide) ?_
      cases hf
      exact rt_i C hP hD hS dX5_words_37
  · have hf := if_t hc hf
    refine lv_bipush (v := (-2 : Int32)) hx hb dX5_words_11 (by decide) ?_
    cases hf
    exact rt_i C hP hD hS dX5_words_13
abbrev wdX5_fitCell (G : GX) (q0 : Nat) (q0_first : Nat) (q0_first_row : Nat) (q0_second : Nat) (q0_third : Nat) (q0_list : Nat) (q0_page : Nat) (q0_single : Nat) (q0_parts : Nat) (k0_first_row : Nat → Int32) : va_W := [(q0, .inr (5, [.ref q0_first, .ref q0_second, .ref q0_third, .ref q0_list, .ref q0_page, .ref q0_single, .ref q0_parts])), (q0_first, .inr (1, [.ref q0_first_row])), (q0_first_row, .inl (G.2.1, 10, .inl k0_first_row))]
abbrev rmX5_fitCell : Room := { frames := 3, cells := 0, slots := 0, locals := 66 }
abbrev glX5_fitCell (p : Program) (l : Launch) (e : Env) (s : State) (m : MethodId) (args : Array Value) (below : List Frame) (meth : Method) (c : Code) (G : GX) (A : Nat → Prop) (q0 : Nat) (q0_first : Nat) (q0_first_row : Nat) (q0_second : Nat) (q0_third : Nat) (q0_list : Nat) (q0_page : Nat) (q0_single : Nat) (q0_parts : Nat) (res : Int32 × (Nat → Int32)) (H : Heap) (locs : List Loc) (pc : Nat) (ls : Array Slot) (st : List Value) : Prop := W p l e rmX5_fitCell s m args below meth c H locs 0 0 (MQ below (ctQ G A (wdX5_fitCell G q0 q0_first q0_first_row q0_second q0_third q0_list q0_page q0_single q0_parts res.2) (some (.int res.1))) args s 0 0 A) (F0 m pc ls st)
set_option maxRecDepth 20000 in
theorem mX5_fitCell_0 : Cond.fieldLink RX5 12 "SchubertDesk" "first" "LSchubertDesk$Digits;" ∈ wsX5_fitCell := by decide +kernel
set_option maxRecDepth 20000 in
theorem nX5_fitCell_X5 : ∀ w ∈ u_ws RX5 TX5 7, w ∈ wsX5_fitCell := by decide +kernel
set_option maxHeartbeats 4000000 in
set_option maxRecDepth 100000 in
theorem tX5_fitCell (l : Launch) (G : GX) (q0 : Nat) (q0_first : Nat) (q0_first_row : Nat) (q0_second : Nat) (q0_third : Nat) (q0_list : Nat) (q0_page : Nat) (q0_single : Nat) (q0_parts : Nat) (k0_first_row : Nat → Int32) (p1 : Int32) (res : Int32 × (Nat → Int32)) (hf : fX5_fitCell k0_first_row p1 = some res) : Ct l yX5_fitCell wsX5_fitCell rmX5_fitCell G [.ref q0, .int p1] (wdX5_fitCell G q0 q0_first q0_first_row q0_second q0_third q0_list q0_page q0_single q0_parts k0_first_row) (wdX5_fitCell G q0 q0_first q0_first_row q0_second q0_third q0_list q0_page q0_single q0_parts res.2) (some (.int res.1)) := by
  refine Ct.of (cc := cX5_fitCell) (nL := 2) (ret := (some .int)) (by decide) rfl (Nat.le_of_ble_eq_true rfl) rfl ?_
  intro p e s m below meth c A ls C hP hD hl
  obtain ⟨hx, hb, hml, hown, hts, hr, hlocks, hA, hG⟩ := id C
  have hS : va_S A s.heap s.heap [] := va_S.rf
  unfold fX5_fitCell at hf
  refine lv_aload_n hx hb dX5_fitCell_0 rfl (lv_at hl 0 rfl) ?_
  refine va_get (D := G.1) (ci := 5) (v := .ref q0_first) (C := RX5) (T := TX5) (N := 7) hx hb hts nX5_fitCell_X5 hown hG.1 hP 0 rfl rfl 0 (by decide) (hts _ mX5_fitCell_0) (fun _ h9 => h9) rfl dX5_fitCell_1 ?_
  refine lv_iload_n hx hb dX5_fitCell_4 rfl (lv_at hl 1 rfl) ?_
  obtain ⟨r1, hr1, hf⟩ := bd_use hf
  refine cl_V (wn := (wdX5_fitCell G q0 q0_first q0_first_row q0_second q0_third q0_list q0_page q0_single q0_parts r1.2)) (st1 := [.int r1.1]) C hP hD hS (tX1_read l G q0_first q0_first_row k0_first_row p1 r1 hr1) (cwV 1 hts gX5_fitCell_X1_read rfl rfl rfl (by decide +kernel) ⟨Nat.le_of_ble_eq_true rfl, Nat.le_of_ble_eq_true rfl⟩) [1, 2] [0] [0, 1, 2] rfl rfl rfl rfl (by decide) rfl rfl (ci := 1) (q0 := 1) rfl rfl rfl rfl hl.1 rfl rfl (Nat.le_of_ble_eq_true rfl) dX5_fitCell_5 (fun H locs hP hD hS => ?_)
  refine lv_if_ne (tgt := 14) hx hb dX5_fitCell_8 (by decide) (fun hc => ?_) (fun hc => ?_)
  · have hf := if_f hc hf
    refine lv_aload_n hx hb dX5_fitCell_14 rfl (lv_at hl 0 rfl) ?_
    refine va_get (D := G.1) (ci := 5) (v := .ref q0_first) (C := RX5) (T := TX5) (N := 7) hx hb hts nX5_fitCell_X5 hown hG.1 hP 0 rfl rfl 0 (by decide) (hts _ mX5_fitCell_0) (fun _ h9 => h9) rfl dX5_fitCell_15 ?_
    obtain ⟨r2, hr2, hf⟩ := bd_use hf
    refine cl_V (wn := (wdX5_fitCell G q0 q0_first q0_first_row q0_second q0_third q0_list q0_page q0_single q0_parts r1.2)) (st1 := [.int r2]) C hP hD hS (tX1_isFit l G q0_first q0_first_row r1.2 r2 hr2) (cwV 0 hts gX5_fitCell_X1_isFit rfl rfl rfl (by decide +kernel) ⟨Nat.le_of_ble_eq_true rfl, Nat.le_of_ble_eq_true rfl⟩) [1, 2] [0] [0, 1, 2] rfl rfl rfl rfl (by decide) rfl rfl (ci := 1) (q0 := 1) rfl rfl rfl rfl hl.1 rfl rfl (Nat.le_of_ble_eq_true rfl) dX5_fitCell_18 (fun H locs hP hD hS => ?_)
    refine lv_if_eq (tgt := 34) hx hb dX5_fitCell_21 (by decide) (fun hc => ?_) (fun hc => ?_)
    · have hf := if_t hc hf
      refine lv_bipush (v := (-3 : Int32)) hx hb dX5_fitCell_34 (by decide) ?_
      cases hf
      exact rt_i C hP hD hS dX5_fitCell_36
    · have hf := if_f hc hf
      refine lv_aload_n hx hb dX5_fitCell_24 rfl (lv_at hl 0 rfl) ?_
      refine va_get (D := G.1) (ci := 5) (v := .ref q0_first) (C := RX5) (T := TX5) (N := 7) hx hb hts nX5_fitCell_X5 hown hG.1 hP 0 rfl rfl 0 (by decide) (hts _ mX5_fitCell_0) (fun _ h9 => h9) rfl dX5_fitCell_25 ?_
      obtain ⟨r3, hr3, hf⟩ := bd_use hf
      refine cl_V (wn := (wdX5_fitCell G q0 q0_first q0_first_row q0_second q0_third q0_list q0_page q0_single q0_parts r1.2)) (st1 := [.int r3]) C hP hD hS (tX1_codeCell l G q0_first q0_first_row r1.2 r3 hr3) (cwV 0 hts gX5_fitCell_X1_codeCell rfl rfl rfl (by decide +kernel) ⟨Nat.le_of_ble_eq_true rfl, Nat.le_of_ble_eq_true rfl⟩) [1, 2] [0] [0, 1, 2] rfl rfl rfl rfl (by decide) rfl rfl (ci := 1) (q0 := 1) rfl rfl rfl rfl hl.1 rfl rfl (Nat.le_of_ble_eq_true rfl) dX5_fitCell_28 (fun H locs hP hD hS => ?_)
      refine lv_goto (tgt := 36) hx hb dX5_fitCell_31 (by decide) ?_
      cases hf
      exact rt_i C hP hD hS dX5_fitCell_36
  · have hf := if_t hc hf
    refine lv_bipush (v := (-2 : Int32)) hx hb dX5_fitCell_11 (by decide) ?_
    cases hf
    exact rt_i C hP hD hS dX5_fitCell_13
abbrev wdX5_number (G : GX) (q0 : Nat) (q0_first : Nat) (q0_first_row : Nat) (q0_second : Nat) (q0_third : Nat) (q0_list : Nat) (q0_page : Nat) (q0_single : Nat) (q0_single_grid : Nat) (q0_single_grid_cell : Nat) (q0_single_grid_top : Nat) (q0_single_code : Nat) (q0_single_way : Nat) (q0_parts : Nat) (k0_first_row : Nat → Int32) (k0_single_grid_cell : Nat → Int64) (k0_single_grid_top : Nat → Int32) (k0_single_code : Nat → Int32) (k0_single_way : Nat → Int32) (k0_single_made : Int32) : va_W := [(q0, .inr (5, [.ref q0_first, .ref q0_second, .ref q0_third, .ref q0_list, .ref q0_page, .ref q0_single, .ref q0_parts])), (q0_first, .inr (1, [.ref q0_first_row])), (q0_first_row, .inl (G.2.1, 10, .inl k0_first_row)), (q0_single, .inr (4, [.ref q0_single_grid, .ref q0_single_code, .ref q0_single_way, .int k0_single_made])), (q0_single_grid, .inr (2, [.ref q0_single_grid_cell, .ref q0_single_grid_top])), (q0_single_grid_cell, .inl (G.2.2.1, 3024, .inr (.inl k0_single_grid_cell))), (q0_single_grid_top, .inl (G.2.1, 5, .inl k0_single_grid_top)), (q0_single_code, .inl (G.2.1, 5, .inl k0_single_code)), (q0_single_way, .inl (G.2.1, 6, .inl k0_single_way))]
abbrev rmX5_number : Room := { frames := 5, cells := 0, slots := 0, locals := 163 }
abbrev glX5_number (p : Program) (l : Launch) (e : Env) (s : State) (m : MethodId) (args : Array Value) (below : List Frame) (meth : Method) (c : Code) (G : GX) (A : Nat → Prop) (q0 : Nat) (q0_first : Nat) (q0_first_row : Nat) (q0_second : Nat) (q0_third : Nat) (q0_list : Nat) (q0_page : Nat) (q0_single : Nat) (q0_single_grid : Nat) (q0_single_grid_cell : Nat) (q0_single_grid_top : Nat) (q0_single_code : Nat) (q0_single_way : Nat) (q0_parts : Nat) (res : Int32 × (Nat → Int32) × (Nat → Int64) × (Nat → Int32) × (Nat → Int32) × (Nat → Int32) × Int32) (H : Heap) (locs : List Loc) (pc : Nat) (ls : Array Slot) (st : List Value) : Prop := W p l e rmX5_number s m args below meth c H locs 0 0 (MQ below (ctQ G A (wdX5_number G q0 q0_first q0_first_row q0_second q0_third q0_list q0_page q0_single q0_single_grid q0_single_grid_cell q0_single_grid_top q0_single_code q0_single_way q0_parts res.2.1 res.2.2.1 res.2.2.2.1 res.2.2.2.2.1 res.2.2.2.2.2.1 res.2.2.2.2.2.2) (some (.int res.1))) args s 0 0 A) (F0 m pc ls st)
set_option maxRecDepth 20000 in
theorem mX5_number_0 : Cond.fieldLink RX5 43 "SchubertDesk" "single" "LSchubertDesk$Single;" ∈ wsX5_number := by decide +kernel
set_option maxRecDepth 20000 in
theorem mX5_number_1 : Cond.fieldLink RX5 109 "SchubertDesk$Single" "grid" "LSchubertDesk$Grid;" ∈ wsX5_number := by decide +kernel
set_option maxRecDepth 20000 in
theorem nX5_number_X5 : ∀ w ∈ u_ws RX5 TX5 7, w ∈ wsX5_number := by decide +kernel
set_option maxRecDepth 20000 in
theorem nX5_number_X4 : ∀ w ∈ u_ws RX4 TX4 4, w ∈ wsX5_number := by decide +kernel
set_option maxHeartbeats 4000000 in
set_option maxRecDepth 100000 in
theorem tX5_number (l : Launch) (G : GX) (q0 : Nat) (q0_first : Nat) (q0_first_row : Nat) (q0_second : Nat) (q0_third : Nat) (q0_list : Nat) (q0_page : Nat) (q0_single : Nat) (q0_single_grid : Nat) (q0_single_grid_cell : Nat) (q0_single_grid_top : Nat) (q0_single_code : Nat) (q0_single_way : Nat) (q0_parts : Nat) (k0_first_row : Nat → Int32) (k0_single_grid_cell : Nat → Int64) (k0_single_grid_top : Nat → Int32) (k0_single_code : Nat → Int32) (k0_single_way : Nat → Int32) (k0_single_made : Int32) (p1 : Int32) (p2 : Int32) (p3 : Int32) (p4 : Int32) (p5 : Int32) (res : Int32 × (Nat → Int32) × (Nat → Int64) × (Nat → Int32) × (Nat → Int32) × (Nat → Int32) × Int32) (hf : fX5_number k0_first_row k0_single_grid_cell k0_single_grid_top k0_single_code k0_single_way k0_single_made p1 p2 p3 p4 p5 = some res) : Ct l yX5_number wsX5_number rmX5_number G [.ref q0, .int p1, .int p2, .int p3, .int p4, .int p5] (wdX5_number G q0 q0_first q0_first_row q0_second q0_third q0_list q0_page q0_single q0_single_grid q0_single_grid_cell q0_single_grid_top q0_single_code q0_single_way q0_parts k0_first_row k0_single_grid_cell k0_single_grid_top k0_single_code k0_single_way k0_single_made) (wdX5_number G q0 q0_first q0_first_row q0_second q0_third q0_list q0_page q0_single q0_single_grid q0_single_grid_cell q0_single_grid_top q0_single_code q0_single_way q0_parts res.2.1 res.2.2.1 res.2.2.2.1 res.2.2.2.2.1 res.2.2.2.2.2.1 res.2.2.2.2.2.2) (some (.int res.1)) := by
  refine Ct.of (cc := cX5_number) (nL := 7) (ret := (some .int)) (by decide) rfl (Nat.le_of_ble_eq_true rfl) rfl ?_
  intro p e s m below meth c A ls C hP hD hl
  obtain ⟨hx, hb, hml, hown, hts, hr, hlocks, hA, hG⟩ := id C
  have hS : va_S A s.heap s.heap [] := va_S.rf
  unfold fX5_number at hf
  refine lv_aload_n hx hb dX5_number_0 rfl (lv_at hl 0 rfl) ?_
  refine lv_iload_n hx hb dX5_number_1 rfl (lv_at hl 1 rfl) ?_
  obtain ⟨r1, hr1, hf⟩ := bd_use hf
  refine cl_V (wn := (wdX5_number G q0 q0_first q0_first_row q0_second q0_third q0_list q0_page q0_single q0_single_grid q0_single_grid_cell q0_single_grid_top q0_single_code q0_single_way q0_parts r1.2 k0_single_grid_cell k0_single_grid_top k0_single_code k0_single_way k0_single_made)) (st1 := [.int r1.1]) C hP hD hS (tX5_fitCell l G q0 q0_first q0_first_row q0_second q0_third q0_list q0_page q0_single q0_parts k0_first_row p1 r1 hr1) (cwV 1 hts gX5_number_X5_fitCell rfl rfl rfl (by decide +kernel) ⟨Nat.le_of_ble_eq_true rfl, Nat.le_of_ble_eq_true rfl⟩) [0, 1, 2] [3, 4, 5, 6, 7, 8] [6, 7, 8, 0, 1, 2, 3, 4, 5] rfl rfl rfl rfl (by decide) rfl rfl (ci := 5) (q0 := 0) rfl rfl rfl rfl hl.1 rfl rfl (Nat.le_of_ble_eq_true rfl) dX5_number_2 (fun H locs hP hD hS => ?_)
  refine lv_istore (lv' := [(6, .int r1.1), (0, .ref q0), (1, .int p1), (2, .int p2), (3, .int p3), (4, .int p4), (5, .int p5)]) hx hb dX5_number_5 hl (by decide) rfl (fun ls hl => ?_)
  refine lv_iload hx hb dX5_number_7 (lv_at hl 0 rfl) ?_
  refine lv_bipush (v := (-2 : Int32)) hx hb dX5_number_9 (by decide) ?_
  refine lv_icmp_eq (tgt := 26) hx hb dX5_number_11 (by decide) (fun hc => ?_) (fun hc => ?_)
  · have hf := if_t hc hf
    refine lv_bipush (v := (-2 : Int32)) hx hb dX5_number_26 (by decide) ?_
    cases hf
    exact rt_i C hP hD hS dX5_number_28
  · have hf := if_f hc hf
    refine lv_iload_n hx hb dX5_number_14 rfl (lv_at hl 3 rfl) ?_
    refine lv_iload_n hx hb dX5_number_15 rfl (lv_at hl 4 rfl) ?_
    refine lv_iload hx hb dX5_number_16 (lv_at hl 5 rfl) ?_
    refine lv_iload hx hb dX5_number_18 (lv_at hl 6 rfl) ?_
    obtain ⟨r2, hr2, hf⟩ := bd_use hf
    refine cl_S (wn := (wdX5_number G q0 q0_first q0_first_row q0_second q0_third q0_list q0_page q0_single q0_single_grid q0_single_grid_cell q0_single_grid_top q0_single_code q0_single_way q0_parts r1.2 k0_single_grid_cell k0_single_grid_top k0_single_code k0_single_way k0_single_made)) (st1 := [.int r2]) C hP hD hS (tX5_isAnyNegative l G p2 p3 p4 p5 r2 hr2) (va_cwS 4 hts gX5_number_X5_isAnyNegative rfl rfl rfl (by decide +kernel) ⟨Nat.le_of_ble_eq_true rfl, Nat.le_of_ble_eq_true rfl⟩) [] [0, 1, 2, 3, 4, 5, 6, 7, 8] [0, 1, 2, 3, 4, 5, 6, 7, 8] rfl rfl rfl rfl (by decide) rfl rfl rfl hl.1 rfl rfl (Nat.le_of_ble_eq_true rfl) dX5_number_20 (fun H locs hP hD hS => ?_)
    refine lv_if_eq (tgt := 29) hx hb dX5_number_23 (by decide) (fun hc => ?_) (fun hc => ?_)
    · have hf := if_t hc hf
      refine lv_iload hx hb dX5_number_29 (lv_at hl 0 rfl) ?_
      refine lv_if_ge (tgt := 37) hx hb dX5_number_31 (by decide) (fun hc => ?_) (fun hc => ?_)
      · have hf := if_t hc hf
        refine lv_aload_n hx hb dX5_number_37 rfl (lv_at hl 1 rfl) ?_
        refine va_get (D := G.1) (ci := 5) (v := .ref q0_single) (C := RX5) (T := TX5) (N := 7) hx hb hts nX5_number_X5 hown hG.1 hP 0 rfl rfl 5 (by decide) (hts _ mX5_number_0) (fun _ h9 => h9) rfl dX5_number_38 ?_
        refine lv_iload hx hb dX5_number_41 (lv_at hl 0 rfl) ?_
        obtain ⟨r3, hr3, hf⟩ := bd_use hf
        refine cl_V (wn := (wdX5_number G q0 q0_first q0_first_row q0_second q0_third q0_list q0_page q0_single q0_single_grid q0_single_grid_cell q0_single_grid_top q0_single_code q0_single_way q0_parts r1.2 r3.1 r3.2.1 r3.2.2.1 r3.2.2.2.1 r3.2.2.2.2)) (st1 := []) C hP hD hS (tX4_make l G q0_single q0_single_grid q0_single_grid_cell q0_single_grid_top q0_single_code q0_single_way k0_single_grid_cell k0_single_grid_top k0_single_code k0_single_way k0_single_made r1.1 r3 hr3) (cwV 1 hts gX5_number_X4_make rfl rfl rfl (by decide +kernel) ⟨Nat.le_of_ble_eq_true rfl, Nat.le_of_ble_eq_true rfl⟩) [3, 4, 5, 6, 7, 8] [0, 1, 2] [0, 1, 2, 3, 4, 5, 6, 7, 8] rfl rfl rfl rfl (by decide) rfl rfl (ci := 4) (q0 := 3) rfl rfl rfl rfl hl.1 rfl rfl (Nat.le_of_ble_eq_true rfl) dX5_number_43 (fun H locs hP hD hS => ?_)
        refine lv_aload_n hx hb dX5_number_46 rfl (lv_at hl 1 rfl) ?_
        refine va_get (D := G.1) (ci := 5) (v := .ref q0_single) (C := RX5) (T := TX5) (N := 7) hx hb hts nX5_number_X5 hown hG.1 hP 0 rfl rfl 5 (by decide) (hts _ mX5_number_0) (fun _ h9 => h9) rfl dX5_number_47 ?_
        refine va_get (D := G.1) (ci := 4) (v := .ref q0_single_grid) (C := RX4) (T := TX4) (N := 4) hx hb hts nX5_number_X4 hown hG.1 hP 3 rfl rfl 0 (by decide) (hts _ mX5_number_1) (fun _ h9 => h9) rfl dX5_number_50 ?_
        refine lv_iload_n hx hb dX5_number_53 rfl (lv_at hl 3 rfl) ?_
        refine lv_iload_n hx hb dX5_number_54 rfl (lv_at hl 4 rfl) ?_
        refine lv_iload hx hb dX5_number_55 (lv_at hl 5 rfl) ?_
        refine lv_iload hx hb dX5_number_57 (lv_at hl 6 rfl) ?_
        obtain ⟨r4, hr4, hf⟩ := bd_use hf
        refine cl_S (wn := (wdX5_number G q0 q0_first q0_first_row q0_second q0_third q0_list q0_page q0_single q0_single_grid q0_single_grid_cell q0_single_grid_top q0_single_code q0_single_way q0_parts r1.2 r3.1 r3.2.1 r3.2.2.1 r3.2.2.2.1 r3.2.2.2.2)) (st1 := [.int r4, .ref q0_single_grid]) C hP hD hS (tX5_cellOf l G p2 p3 p4 p5 r4 hr4) (va_cwS 4 hts gX5_number_X5_cellOf rfl rfl rfl (by decide +kernel) ⟨Nat.le_of_ble_eq_true rfl, Nat.le_of_ble_eq_true rfl⟩) [] [0, 1, 2, 3, 4, 5, 6, 7, 8] [0, 1, 2, 3, 4, 5, 6, 7, 8] rfl rfl rfl rfl (by decide) rfl rfl rfl hl.1 rfl rfl (Nat.le_of_ble_eq_true rfl) dX5_number_59 (fun H locs hP hD hS => ?_)
        obtain ⟨r5, hr5, hf⟩ := bd_use hf
        refine cl_V (wn := (wdX5_number G q0 q0_first q0_first_row q0_second q0_third q0_list q0_page q0_single q0_single_grid q0_single_grid_cell q0_single_grid_top q0_single_code q0_single_way q0_parts r1.2 r3.1 r3.2.1 r3.2.2.1 r3.2.2.2.1 r3.2.2.2.2)) (st1 := [.long r5]) C hP hD hS (tX2_at l G q0_single_grid q0_single_grid_cell q0_single_grid_top r3.1 r4 r5 hr5) (cwV 1 hts gX5_number_X2_at rfl rfl rfl (by decide +kernel) ⟨Nat.le_of_ble_eq_true rfl, Nat.le_of_ble_eq_true rfl⟩) [4, 5] [0, 1, 2, 3, 6, 7, 8] [0, 1, 2, 3, 7, 8, 4, 5, 6] rfl rfl rfl rfl (by decide) rfl rfl (ci := 2) (q0 := 4) rfl rfl rfl rfl hl.1 rfl rfl (Nat.le_of_ble_eq_true rfl) dX5_number_62 (fun H locs hP hD hS => ?_)
        refine lv_l2i hx hb dX5_number_65 rfl ?_
        cases hf
        exact rt_i C hP hD hS dX5_number_66
      · have hf := if_f hc hf
        refine lv_iload hx hb dX5_number_34 (lv_at hl 0 rfl) ?_
        cases hf
        exact rt_i C hP hD hS dX5_number_36
    · have hf := if_f hc hf
      refine lv_bipush (v := (-2 : Int32)) hx hb dX5_number_26 (by decide) ?_
      cases hf
      exact rt_i C hP hD hS dX5_number_28
