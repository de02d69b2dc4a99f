abbrev wdX6_plain (G : GX) (q0 : Nat) (q0_one : Nat) (q0_other : Nat) (q0_third : Nat) (q0_waysTo : Nat) (q0_poly : Nat) (q0_then : Nat) (q0_steps : Nat) (q0_sheet : Nat) (q0_next : Nat) (q0_wide : Nat) (q0_partOf : Nat) (q0_partTimes : Nat) (q0_foundAt : Nat) (k0_one : Nat → Int32) (k0_isParted : Int32) (k0_parts : Int32) (k0_found : Int32) : va_W := [(q0, .inr (6, [.ref q0_one, .ref q0_other, .ref q0_third, .ref q0_waysTo, .ref q0_poly, .ref q0_then, .ref q0_steps, .ref q0_sheet, .ref q0_next, .int k0_isParted, .ref q0_wide, .int k0_parts, .ref q0_partOf, .ref q0_partTimes, .int k0_found, .ref q0_foundAt])), (q0_one, .inl (G.2.1, 10, .inl k0_one))]
abbrev rmX6_plain : Room := { frames := 2, cells := 0, slots := 0, locals := 48 }
abbrev glX6_plain (p : Program) (l : Launch) (e : Env) (s : State) (m : MethodId) (args : Array Value) (below : List Frame) (meth : Method) (c : Code) (G : GX) (A : Nat → Prop) (q0 : Nat) (q0_one : Nat) (q0_other : Nat) (q0_third : Nat) (q0_waysTo : Nat) (q0_poly : Nat) (q0_then : Nat) (q0_steps : Nat) (q0_sheet : Nat) (q0_next : Nat) (q0_wide : Nat) (q0_partOf : Nat) (q0_partTimes : Nat) (q0_foundAt : Nat) (k0_isParted : Int32) (k0_parts : Int32) (k0_found : Int32) (res : Int32 × (Nat → Int32)) (H : Heap) (locs : List Loc) (pc : Nat) (ls : Array Slot) (st : List Value) : Prop := W p l e rmX6_plain s m args below meth c H locs 0 0 (MQ below (ctQ G A (wdX6_plain G q0 q0_one q0_other q0_third q0_waysTo q0_poly q0_then q0_steps q0_sheet q0_next q0_wide q0_partOf q0_partTimes q0_foundAt res.2 k0_isParted k0_parts k0_found) (some (.int res.1))) args s 0 0 A) (F0 m pc ls st)
set_option maxRecDepth 20000 in
theorem mX6_plain_0 : Cond.fieldLink RX6 7 "SchubertDeskModel" "one" "[I" ∈ wsX6_plain := by decide +kernel
set_option maxRecDepth 20000 in
theorem nX6_plain_X6 : ∀ w ∈ u_ws RX6 TX6 16, w ∈ wsX6_plain := by decide +kernel
set_option maxHeartbeats 4000000 in
set_option maxRecDepth 100000 in
theorem tX6_plain (l : Launch) (G : GX) (q0 : Nat) (q0_one : Nat) (q0_other : Nat) (q0_third : Nat) (q0_waysTo : Nat) (q0_poly : Nat) (q0_then : Nat) (q0_steps : Nat) (q0_sheet : Nat) (q0_next : Nat) (q0_wide : Nat) (q0_partOf : Nat) (q0_partTimes : Nat) (q0_foundAt : Nat) (k0_one : Nat → Int32) (k0_isParted : Int32) (k0_parts : Int32) (k0_found : Int32) (p1 : Int32) (res : Int32 × (Nat → Int32)) (hf : fX6_plain k0_one p1 = some res) : Ct l yX6_plain wsX6_plain rmX6_plain G [.ref q0, .int p1] (wdX6_plain G q0 q0_one q0_other q0_third q0_waysTo q0_poly q0_then q0_steps q0_sheet q0_next q0_wide q0_partOf q0_partTimes q0_foundAt k0_one k0_isParted k0_parts k0_found) (wdX6_plain G q0 q0_one q0_other q0_third q0_waysTo q0_poly q0_then q0_steps q0_sheet q0_next q0_wide q0_partOf q0_partTimes q0_foundAt res.2 k0_isParted k0_parts k0_found) (some (.int res.1)) := by
  refine Ct.of (cc := cX6_plain) (nL := 2) (ret := (some .int)) (by decide) rfl (Nat.le_of_ble_eq_true rfl) rfl ?_
  intro p e s m below meth c A ls C hP hD hl
  obtain ⟨hx, hb, hml, hown, hts, hr, hlocks, hA, hG⟩ := id C
  have hS : va_S A s.heap s.heap [] := va_S.rf
  unfold fX6_plain at hf
  refine lv_iload_n hx hb dX6_plain_0 rfl (lv_at hl 1 rfl) ?_
  refine lv_aload_n hx hb dX6_plain_1 rfl (lv_at hl 0 rfl) ?_
  refine va_get (D := G.1) (ci := 6) (v := .ref q0_one) (C := RX6) (T := TX6) (N := 16) hx hb hts nX6_plain_X6 hown hG.1 hP 0 rfl rfl 0 (by decide) (hts _ mX6_plain_0) (fun _ h9 => h9) rfl dX6_plain_2 ?_
  obtain ⟨r1, hr1, hf⟩ := bd_use hf
  refine cl_S (wn := (wdX6_plain G q0 q0_one q0_other q0_third q0_waysTo q0_poly q0_then q0_steps q0_sheet q0_next q0_wide q0_partOf q0_partTimes q0_foundAt r1.2 k0_isParted k0_parts k0_found)) (st1 := [.int r1.1]) C hP hD hS (tX6_lays l G q0_one k0_one p1 r1 hr1) (va_cwS 2 hts gX6_plain_X6_lays rfl rfl rfl (by decide +kernel) ⟨Nat.le_of_ble_eq_true rfl, Nat.le_of_ble_eq_true rfl⟩) [1] [0] [0, 1] rfl rfl rfl rfl (by decide) rfl rfl rfl hl.1 rfl rfl (Nat.le_of_ble_eq_true rfl) dX6_plain_5 (fun H locs hP hD hS => ?_)
  refine lv_if_eq (tgt := 21) hx hb dX6_plain_8 (by decide) (fun hc => ?_) (fun hc => ?_)
  · have hf := if_t hc hf
    refine lv_bipush (v := (-2 : Int32)) hx hb dX6_plain_21 (by decide) ?_
    cases hf
    exact rt_i C hP hD hS dX6_plain_23
  · have hf := if_f hc hf
    refine lv_aload_n hx hb dX6_plain_11 rfl (lv_at hl 0 rfl) ?_
    refine va_get (D := G.1) (ci := 6) (v := .ref q0_one) (C := RX6) (T := TX6) (N := 16) hx hb hts nX6_plain_X6 hown hG.1 hP 0 rfl rfl 0 (by decide) (hts _ mX6_plain_0) (fun _ h9 => h9) rfl dX6_plain_12 ?_
    obtain ⟨r2, hr2, hf⟩ := bd_use hf
    refine cl_S (wn := (wdX6_plain G q0 q0_one q0_other q0_third q0_waysTo q0_poly q0_then q0_steps q0_sheet q0_next q0_wide q0_partOf q0_partTimes q0_foundAt r1.2 k0_isParted k0_parts k0_found)) (st1 := [.int r2]) C hP hD hS (tX6_plainOf l G q0_one r1.2 r2 hr2) (va_cwS 1 hts gX6_plain_X6_plainOf rfl rfl rfl (by decide +kernel) ⟨Nat.le_of_ble_eq_true rfl, Nat.le_of_ble_eq_true rfl⟩) [1] [0] [0, 1] rfl rfl rfl rfl (by decide) rfl rfl rfl hl.1 rfl rfl (Nat.le_of_ble_eq_true rfl) dX6_plain_15 (fun H locs hP hD hS => ?_)
    refine lv_goto (tgt := 23) hx hb dX6_plain_18 (by decide) ?_
    cases hf
    exact rt_i C hP hD hS dX6_plain_23
abbrev wdX6_length (G : GX) (q0 : Nat) (q0_one : Nat) (q0_other : Nat) (q0_third : Nat) (q0_waysTo : Nat) (q0_poly : Nat) (q0_then : Nat) (q0_steps : Nat) (q0_sheet : Nat) (q0_next : Nat) (q0_wide : Nat) (q0_partOf : Nat) (q0_partTimes : Nat) (q0_foundAt : Nat) (k0_one : Nat → Int32) (k0_isParted : Int32) (k0_parts : Int32) (k0_found : Int32) : va_W := [(q0, .inr (6, [.ref q0_one, .ref q0_other, .ref q0_third, .ref q0_waysTo, .ref q0_poly, .ref q0_then, .ref q0_steps, .ref q0_sheet, .ref q0_next, .int k0_isParted, .ref q0_wide, .int k0_parts, .ref q0_partOf, .ref q0_partTimes, .int k0_found, .ref q0_foundAt])), (q0_one, .inl (G.2.1, 10, .inl k0_one))]
abbrev rmX6_length : Room := { frames := 2, cells := 0, slots := 0, locals := 48 }
abbrev glX6_length (p : Program) (l : Launch) (e : Env) (s : State) (m : MethodId) (args : Array Value) (below : List Frame) (meth : Method) (c : Code) (G : GX) (A : Nat → Prop) (q0 : Nat) (q0_one : Nat) (q0_other : Nat) (q0_third : Nat) (q0_waysTo : Nat) (q0_poly : Nat) (q0_then : Nat) (q0_steps : Nat) (q0_sheet : Nat) (q0_next : Nat) (q0_wide : Nat) (q0_partOf : Nat) (q0_partTimes : Nat) (q0_foundAt : Nat) (k0_isParted : Int32) (k0_parts : Int32) (k0_found : Int32) (res : Int32 × (Nat → Int32)) (H : Heap) (locs : List Loc) (pc : Nat) (ls : Array Slot) (st : List Value) : Prop := W p l e rmX6_length s m args below meth c H locs 0 0 (MQ below (ctQ G A (wdX6_length G q0 q0_one q0_other q0_third q0_waysTo q0_poly q0_then q0_steps q0_sheet q0_next q0_wide q0_partOf q0_partTimes q0_foundAt res.2 k0_isParted k0_parts k0_found) (some (.int res.1))) args s 0 0 A) (F0 m pc ls st)
set_option maxRecDepth 20000 in
theorem mX6_length_0 : Cond.fieldLink RX6 7 "SchubertDeskModel" "one" "[I" ∈ wsX6_length := by decide +kernel
set_option maxRecDepth 20000 in
theorem nX6_length_X6 : ∀ w ∈ u_ws RX6 TX6 16, w ∈ wsX6_length := by decide +kernel
set_option maxHeartbeats 4000000 in
set_option maxRecDepth 100000 in
theorem tX6_length (l : Launch) (G : GX) (q0 : Nat) (q0_one : Nat) (q0_other : Nat) (q0_third : Nat) (q0_waysTo : Nat) (q0_poly : Nat) (q0_then : Nat) (q0_steps : Nat) (q0_sheet : Nat) (q0_next : Nat) (q0_wide : Nat) (q0_partOf : Nat) (q0_partTimes : Nat) (q0_foundAt : Nat) (k0_one : Nat → Int32) (k0_isParted : Int32) (k0_parts : Int32) (k0_found : Int32) (p1 : Int32) (res : Int32 × (Nat → Int32)) (hf : fX6_length k0_one p1 = some res) : Ct l yX6_length wsX6_length rmX6_length G [.ref q0, .int p1] (wdX6_length G q0 q0_one q0_other q0_third q0_waysTo q0_poly q0_then q0_steps q0_sheet q0_next q0_wide q0_partOf q0_partTimes q0_foundAt k0_one k0_isParted k0_parts k0_found) (wdX6_length G q0 q0_one q0_other q0_third q0_waysTo q0_poly q0_then q0_steps q0_sheet q0_next q0_wide q0_partOf q0_partTimes q0_foundAt res.2 k0_isParted k0_parts k0_found) (some (.int res.1)) := by
  refine Ct.of (cc := cX6_length) (nL := 2) (ret := (some .int)) (by decide) rfl (Nat.le_of_ble_eq_true rfl) rfl ?_
  intro p e s m below meth c A ls C hP hD hl
  obtain ⟨hx, hb, hml, hown, hts, hr, hlocks, hA, hG⟩ := id C
  have hS : va_S A s.heap s.heap [] := va_S.rf
  unfold fX6_length at hf
  refine lv_iload_n hx hb dX6_length_0 rfl (lv_at hl 1 rfl) ?_
  refine lv_aload_n hx hb dX6_length_1 rfl (lv_at hl 0 rfl) ?_
  refine va_get (D := G.1) (ci := 6) (v := .ref q0_one) (C := RX6) (T := TX6) (N := 16) hx hb hts nX6_length_X6 hown hG.1 hP 0 rfl rfl 0 (by decide) (hts _ mX6_length_0) (fun _ h9 => h9) rfl dX6_length_2 ?_
  obtain ⟨r1, hr1, hf⟩ := bd_use hf
  refine cl_S (wn := (wdX6_length G q0 q0_one q0_other q0_third q0_waysTo q0_poly q0_then q0_steps q0_sheet q0_next q0_wide q0_partOf q0_partTimes q0_foundAt r1.2 k0_isParted k0_parts k0_found)) (st1 := [.int r1.1]) C hP hD hS (tX6_lays l G q0_one k0_one p1 r1 hr1) (va_cwS 2 hts gX6_length_X6_lays rfl rfl rfl (by decide +kernel) ⟨Nat.le_of_ble_eq_true rfl, Nat.le_of_ble_eq_true rfl⟩) [1] [0] [0, 1] rfl rfl rfl rfl (by decide) rfl rfl rfl hl.1 rfl rfl (Nat.le_of_ble_eq_true rfl) dX6_length_5 (fun H locs hP hD hS => ?_)
  refine lv_if_eq (tgt := 21) hx hb dX6_length_8 (by decide) (fun hc => ?_) (fun hc => ?_)
  · have hf := if_t hc hf
    refine lv_bipush (v := (-2 : Int32)) hx hb dX6_length_21 (by decide) ?_
    cases hf
    exact rt_i C hP hD hS dX6_length_23
  · have hf := if_f hc hf
    refine lv_aload_n hx hb dX6_length_11 rfl (lv_at hl 0 rfl) ?_
    refine va_get (D := G.1) (ci := 6) (v := .ref q0_one) (C := RX6) (T := TX6) (N := 16) hx hb hts nX6_length_X6 hown hG.1 hP 0 rfl rfl 0 (by decide) (hts _ mX6_length_0) (fun _ h9 => h9) rfl dX6_length_12 ?_
    obtain ⟨r2, hr2, hf⟩ := bd_use hf
    refine cl_S (wn := (wdX6_length G q0 q0_one q0_other q0_third q0_waysTo q0_poly q0_then q0_steps q0_sheet q0_next q0_wide q0_partOf q0_partTimes q0_foundAt r1.2 k0_isParted k0_parts k0_found)) (st1 := [.int r2]) C hP hD hS (tX6_lengthOf l G q0_one r1.2 r2 hr2) (va_cwS 1 hts gX6_length_X6_lengthOf rfl rfl rfl (by decide +kernel) ⟨Nat.le_of_ble_eq_true rfl, Nat.le_of_ble_eq_true rfl⟩) [1] [0] [0, 1] rfl rfl rfl rfl (by decide) rfl rfl rfl hl.1 rfl rfl (Nat.le_of_ble_eq_true rfl) dX6_length_15 (fun H locs hP hD hS => ?_)
    refine lv_goto (tgt := 23) hx hb dX6_length_18 (by decide) ?_
    cases hf
    exact rt_i C hP hD hS dX6_length_23
abbrev wdX6_code (G : GX) (q0 : Nat) (q0_one : Nat) (q0_other : Nat) (q0_third : Nat) (q0_waysTo : Nat) (q0_poly : Nat) (q0_then : Nat) (q0_steps : Nat) (q0_sheet : Nat) (q0_next : Nat) (q0_wide : Nat) (q0_partOf : Nat) (q0_partTimes : Nat) (q0_foundAt : Nat) (k0_one : Nat → Int32) (k0_isParted : Int32) (k0_parts : Int32) (k0_found : Int32) : va_W := [(q0, .inr (6, [.ref q0_one, .ref q0_other, .ref q0_third, .ref q0_waysTo, .ref q0_poly, .ref q0_then, .ref q0_steps, .ref q0_sheet, .ref q0_next, .int k0_isParted, .ref q0_wide, .int k0_parts, .ref q0_partOf, .ref q0_partTimes, .int k0_found, .ref q0_foundAt])), (q0_one, .inl (G.2.1, 10, .inl k0_one))]
abbrev rmX6_code : Room := { frames := 2, cells := 0, slots := 0, locals := 48 }
abbrev glX6_code (p : Program) (l : Launch) (e : Env) (s : State) (m : MethodId) (args : Array Value) (below : List Frame) (meth : Method) (c : Code) (G : GX) (A : Nat → Prop) (q0 : Nat) (q0_one : Nat) (q0_other : Nat) (q0_third : Nat) (q0_waysTo : Nat) (q0_poly : Nat) (q0_then : Nat) (q0_steps : Nat) (q0_sheet : Nat) (q0_next : Nat) (q0_wide : Nat) (q0_partOf : Nat) (q0_partTimes : Nat) (q0_foundAt : Nat) (k0_isParted : Int32) (k0_parts : Int32) (k0_found : Int32) (res : Int32 × (Nat → Int32)) (H : Heap) (locs : List Loc) (pc : Nat) (ls : Array Slot) (st : List Value) : Prop := W p l e rmX6_code s m args below meth c H locs 0 0 (MQ below (ctQ G A (wdX6_code G q0 q0_one q0_other q0_third q0_waysTo q0_poly q0_then q0_steps q0_sheet q0_next q0_wide q0_partOf q0_partTimes q0_foundAt res.2 k0_isParted k0_parts k0_found) (some (.int res.1))) args s 0 0 A) (F0 m pc ls st)
set_option maxRecDepth 20000 in
theorem mX6_code_0 : Cond.fieldLink RX6 7 "SchubertDeskModel" "one" "[I" ∈ wsX6_code := by decide +kernel
set_option maxRecDepth 20000 in
theorem nX6_code_X6 : ∀ w ∈ u_ws RX6 TX6 16, w ∈ wsX6_code := by decide +kernel
set_option maxHeartbeats 4000000 in
set_option maxRecDepth 100000 in
theorem tX6_code (l : Launch) (G : GX) (q0 : Nat) (q0_one : Nat) (q0_other : Nat) (q0_third : Nat) (q0_waysTo : Nat) (q0_poly : Nat) (q0_then : Nat) (q0_steps : Nat) (q0_sheet : Nat) (q0_next : Nat) (q0_wide : Nat) (q0_partOf : Nat) (q0_partTimes : Nat) (q0_foundAt : Nat) (k0_one : Nat → Int32) (k0_isParted : Int32) (k0_parts : Int32) (k0_found : Int32) (p1 : Int32) (p2 : Int32) (res : Int32 × (Nat → Int32)) (hf : fX6_code k0_one p1 p2 = some res) : Ct l yX6_code wsX6_code rmX6_code G [.ref q0, .int p1, .int p2] (wdX6_code G q0 q0_one q0_other q0_third q0_waysTo q0_poly q0_then q0_steps q0_sheet q0_next q0_wide q0_partOf q0_partTimes q0_foundAt k0_one k0_isParted k0_parts k0_found) (wdX6_code G q0 q0_one q0_other q0_third q0_waysTo q0_poly q0_then q0_steps q0_sheet q0_next q0_wide q0_partOf q0_partTimes q0_foundAt res.2 k0_isParted k0_parts k0_found) (some (.int res.1)) := by
  refine Ct.of (cc := cX6_code) (nL := 3) (ret := (some .int)) (by decide) rfl (Nat.le_of_ble_eq_true rfl) rfl ?_
  intro p e s m below meth c A ls C hP hD hl
  obtain ⟨hx, hb, hml, hown, hts, hr, hlocks, hA, hG⟩ := id C
  have hS : va_S A s.heap s.heap [] := va_S.rf
  unfold fX6_code at hf
  refine lv_iload_n hx hb dX6_code_0 rfl (lv_at hl 1 rfl) ?_
  refine lv_aload_n hx hb dX6_code_1 rfl (lv_at hl 0 rfl) ?_
  refine va_get (D := G.1) (ci := 6) (v := .ref q0_one) (C := RX6) (T := TX6) (N := 16) hx hb hts nX6_code_X6 hown hG.1 hP 0 rfl rfl 0 (by decide) (hts _ mX6_code_0) (fun _ h9 => h9) rfl dX6_code_2 ?_
  obtain ⟨r1, hr1, hf⟩ := bd_use hf
  refine cl_S (wn := (wdX6_code G q0 q0_one q0_other q0_third q0_waysTo q0_poly q0_then q0_steps q0_sheet q0_next q0_wide q0_partOf q0_partTimes q0_foundAt r1.2 k0_isParted k0_parts k0_found)) (st1 := [.int r1.1]) C hP hD hS (tX6_lays l G q0_one k0_one p1 r1 hr1) (va_cwS 2 hts gX6_code_X6_lays rfl rfl rfl (by decide +kernel) ⟨Nat.le_of_ble_eq_true rfl, Nat.le_of_ble_eq_true rfl⟩) [1] [0] [0, 1] rfl rfl rfl rfl (by decide) rfl rfl rfl hl.1 rfl rfl (Nat.le_of_ble_eq_true rfl) dX6_code_5 (fun H locs hP hD hS => ?_)
  refine lv_if_eq (tgt := 32) hx hb dX6_code_8 (by decide) (fun hc => ?_) (fun hc => ?_)
  · have hf := if_t hc hf
    refine lv_bipush (v := (-2 : Int32)) hx hb dX6_code_32 (by decide) ?_
    cases hf
    exact rt_i C hP hD hS dX6_code_34
  · have hf := if_f hc hf
    refine lv_iload_n hx hb dX6_code_11 rfl (lv_at hl 2 rfl) ?_
    refine lv_iconst (v := (1 : Int32)) hx hb dX6_code_12 (by decide) ?_
    refine lv_bipush (v := (9 : Int32)) hx hb dX6_code_13 (by decide) ?_
    obtain ⟨r2, hr2, hf⟩ := bd_use hf
    refine cl_S (wn := (wdX6_code G q0 q0_one q0_other q0_third q0_waysTo q0_poly q0_then q0_steps q0_sheet q0_next q0_wide q0_partOf q0_partTimes q0_foundAt r1.2 k0_isParted k0_parts k0_found)) (st1 := [.int r2]) C hP hD hS (tX6_within l G p2 (1 : Int32) (9 : Int32) r2 hr2) (va_cwS 3 hts gX6_code_X6_within rfl rfl rfl (by decide +kernel) ⟨Nat.le_of_ble_eq_true rfl, Nat.le_of_ble_eq_true rfl⟩) [] [0, 1] [0, 1] rfl rfl rfl rfl (by decide) rfl rfl rfl hl.1 rfl rfl (Nat.le_of_ble_eq_true rfl) dX6_code_15 (fun H locs hP hD hS => ?_)
    refine lv_if_eq (tgt := 32) hx hb dX6_code_18 (by decide) (fun hc => ?_) (fun hc => ?_)
    · have hf := if_t hc hf
      refine lv_bipush (v := (-2 : Int32)) hx hb dX6_code_32 (by decide) ?_
      cases hf
      exact rt_i C hP hD hS dX6_code_34
    · have hf := if_f hc hf
      refine lv_aload_n hx hb dX6_code_21 rfl (lv_at hl 0 rfl) ?_
      refine va_get (D := G.1) (ci := 6) (v := .ref q0_one) (C := RX6) (T := TX6) (N := 16) hx hb hts nX6_code_X6 hown hG.1 hP 0 rfl rfl 0 (by decide) (hts _ mX6_code_0) (fun _ h9 => h9) rfl dX6_code_22 ?_
      refine lv_iload_n hx hb dX6_code_25 rfl (lv_at hl 2 rfl) ?_
      obtain ⟨r3, hr3, hf⟩ := bd_use hf
      refine cl_S (wn := (wdX6_code G q0 q0_one q0_other q0_third q0_waysTo q0_poly q0_then q0_steps q0_sheet q0_next q0_wide q0_partOf q0_partTimes q0_foundAt r1.2 k0_isParted k0_parts k0_found)) (st1 := [.int r3]) C hP hD hS (tX6_codeAt l G q0_one r1.2 p2 r3 hr3) (va_cwS 2 hts gX6_code_X6_codeAt rfl rfl rfl (by decide +kernel) ⟨Nat.le_of_ble_eq_true rfl, Nat.le_of_ble_eq_true rfl⟩) [1] [0] [0, 1] rfl rfl rfl rfl (by decide) rfl rfl rfl hl.1 rfl rfl (Nat.le_of_ble_eq_true rfl) dX6_code_26 (fun H locs hP hD hS => ?_)
      refine lv_goto (tgt := 34) hx hb dX6_code_29 (by decide) ?_
      cases hf
      exact rt_i C hP hD hS dX6_code_34
abbrev wdX6_descents (G : GX) (q0 : Nat) (q0_one : Nat) (q0_other : Nat) (q0_third : Nat) (q0_waysTo : Nat) (q0_poly : Nat) (q0_then : Nat) (q0_steps : Nat) (q0_sheet : Nat) (q0_next : Nat) (q0_wide : Nat) (q0_partOf : Nat) (q0_partTimes : Nat) (q0_foundAt : Nat) (k0_one : Nat → Int32) (k0_isParted : Int32) (k0_parts : Int32) (k0_found : Int32) : va_W := [(q0, .inr (6, [.ref q0_one, .ref q0_other, .ref q0_third, .ref q0_waysTo, .ref q0_poly, .ref q0_then, .ref q0_steps, .ref q0_sheet, .ref q0_next, .int k0_isParted, .ref q0_wide, .int k0_parts, .ref q0_partOf, .ref q0_partTimes, .int k0_found, .ref q0_foundAt])), (q0_one, .inl (G.2.1, 10, .inl k0_one))]
abbrev rmX6_descents : Room := { frames := 2, cells := 0, slots := 0, locals := 48 }
abbrev glX6_descents (p : Program) (l : Launch) (e : Env) (s : State) (m : MethodId) (args : Array Value) (below : List Frame) (meth : Method) (c : Code) (G : GX) (A : Nat → Prop) (q0 : Nat) (q0_one : Nat) (q0_other : Nat) (q0_third : Nat) (q0_waysTo : Nat) (q0_poly : Nat) (q0_then : Nat) (q0_steps : Nat) (q0_sheet : Nat) (q0_next : Nat) (q0_wide : Nat) (q0_partOf : Nat) (q0_partTimes : Nat) (q0_foundAt : Nat) (k0_isParted : Int32) (k0_parts : Int32) (k0_found : Int32) (res : Int32 × (Nat → Int32)) (H : Heap) (locs : List Loc) (pc : Nat) (ls : Array Slot) (st : List Value) : Prop := W p l e rmX6_descents s m args below meth c H locs 0 0 (MQ below (ctQ G A (wdX6_descents G q0 q0_one q0_other q0_third q0_waysTo q0_poly q0_then q0_steps q0_sheet q0_next q0_wide q0_partOf q0_partTimes q0_foundAt res.2 k0_isParted k0_parts k0_found) (some (.int res.1))) args s 0 0 A) (F0 m pc ls st)
set_option maxRecDepth 20000 in
theorem mX6_descents_0 : Cond.fieldLink RX6 7 "SchubertDeskModel" "one" "[I" ∈ wsX6_descents := by decide +kernel
set_option maxRecDepth 20000 in
theorem nX6_descents_X6 : ∀ w ∈ u_ws RX6 TX6 16, w ∈ wsX6_descents := by decide +kernel
set_option maxHeartbeats 4000000 in
set_option maxRecDepth 100000 in
theorem tX6_descents (l : Launch) (G : GX) (q0 : Nat) (q0_one : Nat) (q0_other : Nat) (q0_third : Nat) (q0_waysTo : Nat) (q0_poly : Nat) (q0_then : Nat) (q0_steps : Nat) (q0_sheet : Nat) (q0_next : Nat) (q0_wide : Nat) (q0_partOf : Nat) (q0_partTimes : Nat) (q0_foundAt : Nat) (k0_one : Nat → Int32) (k0_isParted : Int32) (k0_parts : Int32) (k0_found : Int32) (p1 : Int32) (res : Int32 × (Nat → Int32)) (hf : fX6_descents k0_one p1 = some res) : Ct l yX6_descents wsX6_descents rmX6_descents G [.ref q0, .int p1] (wdX6_descents G q0 q0_one q0_other q0_third q0_waysTo q0_poly q0_then q0_steps q0_sheet q0_next q0_wide q0_partOf q0_partTimes q0_foundAt k0_one k0_isParted k0_parts k0_found) (wdX6_descents G q0 q0_one q0_other q0_third q0_waysTo q0_poly q0_then q0_steps q0_sheet q0_next q0_wide q0_partOf q0_partTimes q0_foundAt res.2 k0_isParted k0_parts k0_found) (some (.int res.1)) := by
  refine Ct.of (cc := cX6_descents) (nL := 2) (ret := (some .int)) (by decide) rfl (Nat.le_of_ble_eq_true rfl) rfl ?_
  intro p e s m below meth c A ls C hP hD hl
  obtain ⟨hx, hb, hml, hown, hts, hr, hlocks, hA, hG⟩ := id C
  have hS : va_S A s.heap s.heap [] := va_S.rf
  unfold fX6_descents at hf
  refine lv_iload_n hx hb dX6_descents_0 rfl (lv_at hl 1 rfl) ?_
  refine lv_aload_n hx hb dX6_descents_1 rfl (lv_at hl 0 rfl) ?_
  refine va_get (D := G.1) (ci := 6) (v := .ref q0_one) (C := RX6) (T := TX6) (N := 16) hx hb hts nX6_descents_X6 hown hG.1 hP 0 rfl rfl 0 (by decide) (hts _ mX6_descents_0) (fun _ h9 => h9) rfl dX6_descents_2 ?_
  obtain ⟨r1, hr1, hf⟩ := bd_use hf
  refine cl_S (wn := (wdX6_descents G q0 q0_one q0_other q0_third q0_waysTo q0_poly q0_then q0_steps q0_sheet q0_next q0_wide q0_partOf q0_partTimes q0_foundAt r1.2 k0_isParted k0_parts k0_found)) (st1 := [.int r1.1]) C hP hD hS (tX6_lays l G q0_one k0_one p1 r1 hr1) (va_cwS 2 hts gX6_descents_X6_lays rfl rfl rfl (by decide +kernel) ⟨Nat.le_of_ble_eq_true rfl, Nat.le_of_ble_eq_true rfl⟩) [1] [0] [0, 1] rfl rfl rfl rfl (by decide) rfl rfl rfl hl.1 rfl rfl (Nat.le_of_ble_eq_true rfl) dX6_descents_5 (fun H locs hP hD hS => ?_)
  refine lv_if_eq (tgt := 21) hx hb dX6_descents_8 (by decide) (fun hc => ?_) (fun hc => ?_)
  · have hf := if_t hc hf
    refine lv_bipush (v := (-2 : Int32)) hx hb dX6_descents_21 (by decide) ?_
    cases hf
    exact rt_i C hP hD hS dX6_descents_23
  · have hf := if_f hc hf
    refine lv_aload_n hx hb dX6_descents_11 rfl (lv_at hl 0 rfl) ?_
    refine va_get (D := G.1) (ci := 6) (v := .ref q0_one) (C := RX6) (T := TX6) (N := 16) hx hb hts nX6_descents_X6 hown hG.1 hP 0 rfl rfl 0 (by decide) (hts _ mX6_descents_0) (fun _ h9 => h9) rfl dX6_descents_12 ?_
    obtain ⟨r2, hr2, hf⟩ := bd_use hf
    refine cl_S (wn := (wdX6_descents G q0 q0_one q0_other q0_third q0_waysTo q0_poly q0_then q0_steps q0_sheet q0_next q0_wide q0_partOf q0_partTimes q0_foundAt r1.2 k0_isParted k0_parts k0_found)) (st1 := [.int r2]) C hP hD hS (tX6_descentsOf l G q0_one r1.2 r2 hr2) (va_cwS 1 hts gX6_descents_X6_descentsOf rfl rfl rfl (by decide +kernel) ⟨Nat.le_of_ble_eq_true rfl, Nat.le_of_ble_eq_true rfl⟩) [1] [0] [0, 1] rfl rfl rfl rfl (by decide) rfl rfl rfl hl.1 rfl rfl (Nat.le_of_ble_eq_true rfl) dX6_descents_15 (fun H locs hP hD hS => ?_)
    refine lv_goto (tgt := 23) hx hb dX6_descents_18 (by decide) ?_
    cases hf
    exact rt_i C hP hD hS dX6_descents_23
abbrev wdX6_inverse (G : GX) (q0 : Nat) (q0_one : Nat) (q0_other : Nat) (q0_third : Nat) (q0_waysTo : Nat) (q0_poly : Nat) (q0_then : Nat) (q0_steps : Nat) (q0_sheet : Nat) (q0_next : Nat) (q0_wide : Nat) (q0_partOf : Nat) (q0_partTimes : Nat) (q0_foundAt : Nat) (k0_one : Nat → Int32) (k0_other : Nat → Int32) (k0_isParted : Int32) (k0_parts : Int32) (k0_found : Int32) : va_W := [(q0, .inr (6, [.ref q0_one, .ref q0_other, .ref q0_third, .ref q0_waysTo, .ref q0_poly, .ref q0_then, .ref q0_steps, .ref q0_sheet, .ref q0_next, .int k0_isParted, .ref q0_wide, .int k0_parts, .ref q0_partOf, .ref q0_partTimes, .int k0_found, .ref q0_foundAt])), (q0_one, .inl (G.2.1, 10, .inl k0_one)), (q0_other, .inl (G.2.1, 10, .inl k0_other))]
abbrev rmX6_inverse : Room := { frames := 2, cells := 0, slots := 0, locals := 48 }
abbrev glX6_inverse (p : Program) (l : Launch) (e : Env) (s : State) (m : MethodId) (args : Array Value) (below : List Frame) (meth : Method) (c : Code) (G : GX) (A : Nat → Prop) (q0 : Nat) (q0_one : Nat) (q0_other : Nat) (q0_third : Nat) (q0_waysTo : Nat) (q0_poly : Nat) (q0_then : Nat) (q0_steps : Nat) (q0_sheet : Nat) (q0_next : Nat) (q0_wide : Nat) (q0_partOf : Nat) (q0_partTimes : Nat) (q0_foundAt : Nat) (k0_isParted : Int32) (k0_parts : Int32) (k0_found : Int32) (res : Int32 × (Nat → Int32) × (Nat → Int32)) (H : Heap) (locs : List Loc) (pc : Nat) (ls : Array Slot) (st : List Value) : Prop := W p l e rmX6_inverse s m args below meth c H locs 0 0 (MQ below (ctQ G A (wdX6_inverse G q0 q0_one q0_other q0_third q0_waysTo q0_poly q0_then q0_steps q0_sheet q0_next q0_wide q0_partOf q0_partTimes q0_foundAt res.2.1 res.2.2 k0_isParted k0_parts k0_found) (some (.int res.1))) args s 0 0 A) (F0 m pc ls st)
set_option maxRecDepth 20000 in
theorem mX6_inverse_0 : Cond.fieldLink RX6 13 "SchubertDeskModel" "other" "[I" ∈ wsX6_inverse := by decide +kernel
set_option maxRecDepth 20000 in
theorem mX6_inverse_1 : Cond.fieldLink RX6 7 "SchubertDeskModel" "one" "[I" ∈ wsX6_inverse := by decide +kernel
set_option maxRecDepth 20000 in
theorem nX6_inverse_X6 : ∀ w ∈ u_ws RX6 TX6 16, w ∈ wsX6_inverse := by decide +kernel
set_option maxHeartbeats 4000000 in
set_option maxRecDepth 100000 in
theorem wX6_inverse_16 {p : Program} {l : Launch} {e : Env} {s : State} {m : MethodId} {args : Array Value} {below : List Frame} {meth : Method} {c : Code} {G : GX} {A : Nat → Prop} (C : Cx p s m args meth c cX6_inverse 3 (some .int) wsX6_inverse RX6 G A) (q0 : Nat) (q0_one : Nat) (q0_other : Nat) (q0_third : Nat) (q0_waysTo : Nat) (q0_poly : Nat) (q0_then : Nat) (q0_steps : Nat) (q0_sheet : Nat) (q0_next : Nat) (q0_wide : Nat) (q0_partOf : Nat) (q0_partTimes : Nat) (q0_foundAt : Nat) (k0_isParted : Int32) (k0_parts : Int32) (k0_found : Int32) (p1 : Int32) (res : Int32 × (Nat → Int32) × (Nat → Int32)) (n : Nat) : ∀ (k0_one : Nat → Int32) (k0_other : Nat → Int32) (x2 : Int32) (H : Heap) (locs : List Loc) (ls : Array Slot), fX6_inverse_L16 p1 n k0_one k0_other x2 = some res → va_P G.1 vwCl (wdX6_inverse G q0 q0_one q0_other q0_third q0_waysTo q0_poly q0_then q0_steps q0_sheet q0_next q0_wide q0_partOf q0_partTimes q0_foundAt k0_one k0_other k0_isParted k0_parts k0_found) H → va_D A (wdX6_inverse G q0 q0_one q0_other q0_third q0_waysTo q0_poly q0_then q0_steps q0_sheet q0_next q0_wide q0_partOf q0_partTimes q0_foundAt k0_one k0_other k0_isParted k0_parts k0_found) → va_S A s.heap H locs → lv_has ls 3 [(0, .ref q0), (2, .int x2)] → glX6_inverse p l e s m args below meth c G A q0 q0_one q0_other q0_third q0_waysTo q0_poly q0_then q0_steps q0_sheet q0_next q0_wide q0_partOf q0_partTimes q0_foundAt k0_isParted k0_parts k0_found res H locs 16 ls [] := by
  obtain ⟨hx, hb, hml, hown, hts, hr, hlocks, hA, hG⟩ := id C
  induction n with
  | zero => intro k0_one k0_other x2 H locs ls hf hP hD hS hl; cases hf
  | succ n ih =>
    intro k0_one k0_other x2 H locs ls hf hP hD hS hl
    simp only [fX6_inverse_L16] at hf
    refine lv_iload_n hx hb dX6_inverse_16 rfl (lv_at hl 1 rfl) ?_
    refine lv_bipush (v := (9 : Int32)) hx hb dX6_inverse_17 (by decide) ?_
    refine lv_icmp_gt (tgt := 40) hx hb dX6_inverse_19 (by decide) (fun hc => ?_) (fun hc => ?_)
    · have hf := if_t hc hf
      refine lv_aload_n hx hb dX6_inverse_40 rfl (lv_at hl 0 rfl) ?_
      refine va_get (D := G.1) (ci := 6) (v := .ref q0_other) (C := RX6) (T := TX6) (N := 16) hx hb hts nX6_inverse_X6 hown hG.1 hP 0 rfl rfl 1 (by decide) (hts _ mX6_inverse_0) (fun _ h9 => h9) rfl dX6_inverse_41 ?_
      obtain ⟨r1, hr1, hf⟩ := bd_use hf
      refine cl_S (wn := (wdX6_inverse G q0 q0_one q0_other q0_third q0_waysTo q0_poly q0_then q0_steps q0_sheet q0_next q0_wide q0_partOf q0_partTimes q0_foundAt k0_one k0_other k0_isParted k0_parts k0_found)) (st1 := [.int r1]) C hP hD hS (tX6_plainOf l G q0_other k0_other r1 hr1) (va_cwS 1 hts gX6_inverse_X6_plainOf rfl rfl rfl (by decide +kernel) ⟨Nat.le_of_ble_eq_true rfl, Nat.le_of_ble_eq_true rfl⟩) [2] [0, 1] [0, 1, 2] rfl rfl rfl rfl (by decide) rfl rfl rfl hl.1 rfl rfl (Nat.le_of_ble_eq_true rfl) dX6_inverse_44 (fun H locs hP hD hS => ?_)
      cases hf
      exact rt_i C hP hD hS dX6_inverse_47
    · have hf := if_f hc hf
      refine lv_aload_n hx hb dX6_inverse_22 rfl (lv_at hl 0 rfl) ?_
      refine va_get (D := G.1) (ci := 6) (v := .ref q0_other) (C := RX6) (T := TX6) (N := 16) hx hb hts nX6_inverse_X6 hown hG.1 hP 0 rfl rfl 1 (by decide) (hts _ mX6_inverse_0) (fun _ h9 => h9) rfl dX6_inverse_23 ?_
      refine lv_aload_n hx hb dX6_inverse_26 rfl (lv_at hl 0 rfl) ?_
      refine va_get (D := G.1) (ci := 6) (v := .ref q0_one) (C := RX6) (T := TX6) (N := 16) hx hb hts nX6_inverse_X6 hown hG.1 hP 0 rfl rfl 0 (by decide) (hts _ mX6_inverse_1) (fun _ h9 => h9) rfl dX6_inverse_27 ?_
      refine lv_iload_n hx hb dX6_inverse_30 rfl (lv_at hl 1 rfl) ?_
      obtain ⟨hin, hf⟩ := gI_use hf
      refine va_iald hx hb hG.1 hP 1 0 rfl rfl hin dX6_inverse_31 ?_
      refine lv_iload_n hx hb dX6_inverse_32 rfl (lv_at hl 1 rfl) ?_
      obtain ⟨hin, hf⟩ := pI_use hf
      refine va_iast hx hb hG.1 hP hD hS 2 0 rfl rfl hin dX6_inverse_33 (fun H locs hP hD hS => ?_)
      have hP : va_P G.1 vwCl (wdX6_inverse G q0 q0_one q0_other q0_third q0_waysTo q0_poly q0_then q0_steps q0_sheet q0_next q0_wide q0_partOf q0_partTimes q0_foundAt k0_one (upd k0_other ((k0_one (x2).toNatClampNeg)).toNatClampNeg x2) k0_isParted k0_parts k0_found) H := hP
      have hD : va_D A (wdX6_inverse G q0 q0_one q0_other q0_third q0_waysTo q0_poly q0_then q0_steps q0_sheet q0_next q0_wide q0_partOf q0_partTimes q0_foundAt k0_one (upd k0_other ((k0_one (x2).toNatClampNeg)).toNatClampNeg x2) k0_isParted k0_parts k0_found) := hD
      obtain ⟨y4, ey4⟩ : ∃ z : Int32, z = x2 + (1 : Int32) := ⟨_, rfl⟩
      have hf := nm_use ey4 hf
      refine lv_iinc (v := y4) (lv' := [(2, .int y4), (0, .ref q0)]) hx hb dX6_inverse_34 hl (k := 1) rfl (by rw [ey4]; rfl) (by decide) rfl (fun ls hl => ?_)
      refine lv_goto (tgt := 16) hx hb dX6_inverse_37 (by decide) ?_
      exact ih k0_one (upd k0_other ((k0_one (x2).toNatClampNeg)).toNatClampNeg x2) y4 _ _ ls hf hP hD hS (lv_sub hl [1, 0] rfl)
set_option maxHeartbeats 4000000 in
set_option maxRecDepth 100000 in
theorem tX6_inverse (l : Launch) (G : GX) (q0 : Nat) (q0_one : Nat) (q0_other : Nat) (q0_third : Nat) (q0_waysTo : Nat) (q0_poly : Nat) (q0_then : Nat) (q0_steps : Nat) (q0_sheet : Nat) (q0_next : Nat) (q0_wide : Nat) (q0_partOf : Nat) (q0_partTimes : Nat) (q0_foundAt : Nat) (k0_one : Nat → Int32) (k0_other : Nat → Int32) (k0_isParted : Int32) (k0_parts : Int32) (k0_found : Int32) (p1 : Int32) (res : Int32 × (Nat → Int32) × (Nat → Int32)) (hf : fX6_inverse k0_one k0_other p1 = some res) : Ct l yX6_inverse wsX6_inverse rmX6_inverse G [.ref q0, .int p1] (wdX6_inverse G q0 q0_one q0_other q0_third q0_waysTo q0_poly q0_then q0_steps q0_sheet q0_next q0_wide q0_partOf q0_partTimes q0_foundAt k0_one k0_other k0_isParted k0_parts k0_found) (wdX6_inverse G q0 q0_one q0_other q0_third q0_waysTo q0_poly q0_then q0_steps q0_sheet q0_next q0_wide q0_partOf q0_partTimes q0_foundAt res.2.1 res.2.2 k0_isParted k0_parts k0_found) (some (.int res.1)) := by
  refine Ct.of (cc := cX6_inverse) (nL := 3) (ret := (some .int)) (by decide) rfl (Nat.le_of_ble_eq_true rfl) rfl ?_
  intro p e s m below meth c A ls C hP hD hl
  obtain ⟨hx, hb, hml, hown, hts, hr, hlocks, hA, hG⟩ := id C
  have hS : va_S A s.heap s.heap [] := va_S.rf
  unfold fX6_inverse at hf
  refine lv_iload_n hx hb dX6_inverse_0 rfl (lv_at hl 1 rfl) ?_
  refine lv_aload_n hx hb dX6_inverse_1 rfl (lv_at hl 0 rfl) ?_
  refine va_get (D := G.1) (ci := 6) (v := .ref q0_one) (C := RX6) (T := TX6) (N := 16) hx hb hts nX6_inverse_X6 hown hG.1 hP 0 rfl rfl 0 (by decide) (hts _ mX6_inverse_1) (fun _ h9 => h9) rfl dX6_inverse_2 ?_
  obtain ⟨r5, hr5, hf⟩ := bd_use hf
  refine cl_S (wn := (wdX6_inverse G q0 q0_one q0_other q0_third q0_waysTo q0_poly q0_then q0_steps q0_sheet q0_next q0_wide q0_partOf q0_partTimes q0_foundAt r5.2 k0_other k0_isParted k0_parts k0_found)) (st1 := [.int r5.1]) C hP hD hS (tX6_lays l G q0_one k0_one p1 r5 hr5) (va_cwS 2 hts gX6_inverse_X6_lays rfl rfl rfl (by decide +kernel) ⟨Nat.le_of_ble_eq_true rfl, Nat.le_of_ble_eq_true rfl⟩) [1] [0, 2] [0, 2, 1] rfl rfl rfl rfl (by decide) rfl rfl rfl hl.1 rfl rfl (Nat.le_of_ble_eq_true rfl) dX6_inverse_5 (fun H locs hP hD hS => ?_)
  refine lv_if_ne (tgt := 14) hx hb dX6_inverse_8 (by decide) (fun hc => ?_) (fun hc => ?_)
  · have hf := if_f hc hf
    refine lv_iconst (v := (1 : Int32)) hx hb dX6_inverse_14 (by decide) ?_
    refine lv_istore_n (lv' := [(2, .int (1 : Int32)), (0, .ref q0), (1, .int p1)]) hx hb dX6_inverse_15 rfl hl (by decide) rfl (fun ls hl => ?_)
    exact wX6_inverse_16 C q0 q0_one q0_other q0_third q0_waysTo q0_poly q0_then q0_steps q0_sheet q0_next q0_wide q0_partOf q0_partTimes q0_foundAt k0_isParted k0_parts k0_found p1 res fu r5.2 k0_other (1 : Int32) _ _ ls hf hP hD hS (lv_sub hl [1, 0] rfl)
  · have hf := if_t hc hf
    refine lv_bipush (v := (-2 : Int32)) hx hb dX6_inverse_11 (by decide) ?_
    cases hf
    exact rt_i C hP hD hS dX6_inverse_13
abbrev wdX6_after (G : GX) (q0 : Nat) (q0_one : Nat) (q0_other : Nat) (q0_third : Nat) (q0_waysTo : Nat) (q0_poly : Nat) (q0_then : Nat) (q0_steps : Nat) (q0_sheet : Nat) (q0_next : Nat) (q0_wide : Nat) (q0_partOf : Nat) (q0_partTimes : Nat) (q0_foundAt : Nat) (k0_one : Nat → Int32) (k0_other : Nat → Int32) (k0_third : Nat → Int32) (k0_isParted : Int32) (k0_parts : Int32) (k0_found : Int32) : va_W := [(q0, .inr (6, [.ref q0_one, .ref q0_other, .ref q0_third, .ref q0_waysTo, .ref q0_poly, .ref q0_then, .ref q0_steps, .ref q0_sheet, .ref q0_next, .int k0_isParted, .ref q0_wide, .int k0_parts, .ref q0_partOf, .ref q0_partTimes, .int k0_found, .ref q0_foundAt])), (q0_one, .inl (G.2.1, 10, .inl k0_one)), (q0_other, .inl (G.2.1, 10, .inl k0_other)), (q0_third, .inl (G.2.1, 10, .inl k0_third))]
abbrev rmX6_after : Room := { frames := 2, cells := 0, slots := 0, locals := 48 }
abbrev glX6_after (p : Program) (l : Launch) (e : Env) (s : State) (m : MethodId) (args : Array Value) (below : List Frame) (meth : Method) (c : Code) (G : GX) (A : Nat → Prop) (q0 : Nat) (q0_one : Nat) (q0_other : Nat) (q0_third : Nat) (q0_waysTo : Nat) (q0_poly : Nat) (q0_then : Nat) (q0_steps : Nat) (q0_sheet : Nat) (q0_next : Nat) (q0_wide : Nat) (q0_partOf : Nat) (q0_partTimes : Nat) (q0_foundAt : Nat) (k0_isParted : Int32) (k0_parts : Int32) (k0_found : Int32) (res : Int32 × (Nat → Int32) × (Nat → Int32) × (Nat → Int32)) (H : Heap) (locs : List Loc) (pc : Nat) (ls : Array Slot) (st : List Value) : Prop := W p l e rmX6_after s m args below meth c H locs 0 0 (MQ below (ctQ G A (wdX6_after G q0 q0_one q0_other q0_third q0_waysTo q0_poly q0_then q0_steps q0_sheet q0_next q0_wide q0_partOf q0_partTimes q0_foundAt res.2.1 res.2.2.1 res.2.2.2 k0_isParted k0_parts k0_found) (some (.int res.1))) args s 0 0 A) (F0 m pc ls st)
set_option maxRecDepth 20000 in
theorem mX6_after_0 : Cond.fieldLink RX6 16 "SchubertDeskModel" "third" "[I" ∈ wsX6_after := by decide +kernel
set_option maxRecDepth 20000 in
theorem mX6_after_1 : Cond.fieldLink RX6 7 "SchubertDeskModel" "one" "[I" ∈ wsX6_after := by decide +kernel
set_option maxRecDepth 20000 in
theorem mX6_after_2 : Cond.fieldLink RX6 13 "SchubertDeskModel" "other" "[I" ∈ wsX6_after := by decide +kernel
set_option maxRecDepth 20000 in
theorem nX6_after_X6 : ∀ w ∈ u_ws RX6 TX6 16, w ∈ wsX6_after := by decide +kernel
set_option maxHeartbeats 4000000 in
set_option maxRecDepth 100000 in
theorem wX6_after_27 {p : Program} {l : Launch} {e : Env} {s : State} {m : MethodId} {args : Array Value} {below : List Frame} {meth : Method} {c : Code} {G : GX} {A : Nat → Prop} (C : Cx p s m args meth c cX6_after 4 (some .int) wsX6_after RX6 G A) (q0 : Nat) (q0_one : Nat) (q0_other : Nat) (q0_third : Nat) (q0_waysTo : Nat) (q0_poly : Nat) (q0_then : Nat) (q0_steps : Nat) (q0_sheet : Nat) (q0_next : Nat) (q0_wide : Nat) (q0_partOf : Nat) (q0_partTimes : Nat) (q0_foundAt : Nat) (k0_isParted : Int32) (k0_parts : Int32) (k0_found : Int32) (p1 : Int32) (p2 : Int32) (res : Int32 × (Nat → Int32) × (Nat → Int32) × (Nat → Int32)) (n : Nat) : ∀ (k0_one : Nat → Int32) (k0_other : Nat → Int32) (k0_third : Nat → Int32) (x3 : Int32) (H : Heap) (locs : List Loc) (ls : Array Slot), fX6_after_L27 p1 p2 n k0_one k0_other k0_third x3 = some res → va_P G.1 vwCl (wdX6_after G q0 q0_one q0_other q0_third q0_waysTo q0_poly q0_then q0_steps q0_sheet q0_next q0_wide q0_partOf q0_partTimes q0_foundAt k0_one k0_other k0_third k0_isParted k0_parts k0_found) H → va_D A (wdX6_after G q0 q0_one q0_other q0_third q0_waysTo q0_poly q0_then q0_steps q0_sheet q0_next q0_wide q0_partOf q0_partTimes q0_foundAt k0_one k0_other k0_third k0_isParted k0_parts k0_found) → va_S A s.heap H locs → lv_has ls 4 [(0, .ref q0), (3, .int x3)] → glX6_after p l e s m args below meth c G A q0 q0_one q0_other q0_third q0_waysTo q0_poly q0_then q0_steps q0_sheet q0_next q0_wide q0_partOf q0_partTimes q0_foundAt k0_isParted k0_parts k0_found res H locs 27 ls [] := by
  obtain ⟨hx, hb, hml, hown, hts, hr, hlocks, hA, hG⟩ := id C
  induction n with
  | zero => intro k0_one k0_other k0_third x3 H locs ls hf hP hD hS hl; cases hf
  | succ n ih =>
    intro k0_one k0_other k0_third x3 H locs ls hf hP hD hS hl
    simp only [fX6_after_L27] at hf
    refine lv_iload_n hx hb dX6_after_27 rfl (lv_at hl 1 rfl) ?_
    refine lv_bipush (v := (9 : Int32)) hx hb dX6_after_28 (by decide) ?_
    refine lv_icmp_gt (tgt := 56) hx hb dX6_after_30 (by decide) (fun hc => ?_) (fun hc => ?_)
    · have hf := if_t hc hf
      refine lv_aload_n hx hb dX6_after_56 rfl (lv_at hl 0 rfl) ?_
      refine va_get (D := G.1) (ci := 6) (v := .ref q0_third) (C := RX6) (T := TX6) (N := 16) hx hb hts nX6_after_X6 hown hG.1 hP 0 rfl rfl 2 (by decide) (hts _ mX6_after_0) (fun _ h9 => h9) rfl dX6_after_57 ?_
      obtain ⟨r1, hr1, hf⟩ := bd_use hf
      refine cl_S (wn := (wdX6_after G q0 q0_one q0_other q0_third q0_waysTo q0_poly q0_then q0_steps q0_sheet q0_next q0_wide q0_partOf q0_partTimes q0_foundAt k0_one k0_other k0_third k0_isParted k0_parts k0_found)) (st1 := [.int r1]) C hP hD hS (tX6_plainOf l G q0_third k0_third r1 hr1) (va_cwS 1 hts gX6_after_X6_plainOf rfl rfl rfl (by decide +kernel) ⟨Nat.le_of_ble_eq_true rfl, Nat.le_of_ble_eq_true rfl⟩) [3] [0, 1, 2] [0, 1, 2, 3] rfl rfl rfl rfl (by decide) rfl rfl rfl hl.1 rfl rfl (Nat.le_of_ble_eq_true rfl) dX6_after_60 (fun H locs hP hD hS => ?_)
      cases hf
      exact rt_i C hP hD hS dX6_after_63
    · have hf := if_f hc hf
      refine lv_aload_n hx hb dX6_after_33 rfl (lv_at hl 0 rfl) ?_
      refine va_get (D := G.1) (ci := 6) (v := .ref q0_third) (C := RX6) (T := TX6) (N := 16) hx hb hts nX6_after_X6 hown hG.1 hP 0 rfl rfl 2 (by decide) (hts _ mX6_after_0) (fun _ h9 => h9) rfl dX6_after_34 ?_
      refine lv_iload_n hx hb dX6_after_37 rfl (lv_at hl 1 rfl) ?_
      refine lv_aload_n hx hb dX6_after_38 rfl (lv_at hl 0 rfl) ?_
      refine va_get (D := G.1) (ci := 6) (v := .ref q0_one) (C := RX6) (T := TX6) (N := 16) hx hb hts nX6_after_X6 hown hG.1 hP 0 rfl rfl 0 (by decide) (hts _ mX6_after_1) (fun _ h9 => h9) rfl dX6_after_39 ?_
      refine lv_aload_n hx hb dX6_after_42 rfl (lv_at hl 0 rfl) ?_
      refine va_get (D := G.1) (ci := 6) (v := .ref q0_other) (C := RX6) (T := TX6) (N := 16) hx hb hts nX6_after_X6 hown hG.1 hP 0 rfl rfl 1 (by decide) (hts _ mX6_after_2) (fun _ h9 => h9) rfl dX6_after_43 ?_
      refine lv_iload_n hx hb dX6_after_46 rfl (lv_at hl 1 rfl) ?_
      obtain ⟨hin, hf⟩ := gI_use hf
      refine va_iald hx hb hG.1 hP 2 0 rfl rfl hin dX6_after_47 ?_
      obtain ⟨hin, hf⟩ := gI_use hf
      refine va_iald hx hb hG.1 hP 1 0 rfl rfl hin dX6_after_48 ?_
      obtain ⟨hin, hf⟩ := pI_use hf
      refine va_iast hx hb hG.1 hP hD hS 3 0 rfl rfl hin dX6_after_49 (fun H locs hP hD hS => ?_)
      have hP : va_P G.1 vwCl (wdX6_after G q0 q0_one q0_other q0_third q0_waysTo q0_poly q0_then q0_steps q0_sheet q0_next q0_wide q0_partOf q0_partTimes q0_foundAt k0_one k0_other (upd k0_third (x3).toNatClampNeg (k0_one ((k0_other (x3).toNatClampNeg)).toNatClampNeg)) k0_isParted k0_parts k0_found) H := hP
      have hD : va_D A (wdX6_after G q0 q0_one q0_other q0_third q0_waysTo q0_poly q0_then q0_steps q0_sheet q0_next q0_wide q0_partOf q0_partTimes q0_foundAt k0_one k0_other (upd k0_third (x3).toNatClampNeg (k0_one ((k0_other (x3).toNatClampNeg)).toNatClampNeg)) k0_isParted k0_parts k0_found) := hD
      obtain ⟨y5, ey5⟩ : ∃ z : Int32, z = x3 + (1 : Int32) := ⟨_, rfl⟩
      have hf := nm_use ey5 hf
      refine lv_iinc (v := y5) (lv' := [(3, .int y5), (0, .ref q0)]) hx hb dX6_after_50 hl (k := 1) rfl (by rw [ey5]; rfl) (by decide) rfl (fun ls hl => ?_)
      refine lv_goto (tgt := 27) hx hb dX6_after_53 (by decide) ?_
      exact ih k0_one k0_other (upd k0_third (x3).toNatClampNeg (k0_one ((k0_other (x3).toNatClampNeg)).toNatClampNeg)) y5 _ _ ls hf hP hD hS (lv_sub hl [1, 0] rfl)
set_option maxHeartbeats 4000000 in
set_option maxRecDepth 100000 in
theorem tX6_after (l : Launch) (G : GX) (q0 : Nat) (q0_one : Nat) (q0_other : Nat) (q0_third : Nat) (q0_waysTo : Nat) (q0_poly : Nat) (q0_then : Nat) (q0_steps : Nat) (q0_sheet : Nat) (q0_next : Nat) (q0_wide : Nat) (q0_partOf : Nat) (q0_partTimes : Nat) (q0_foundAt : Nat) (k0_one : Nat → Int32) (k0_other : Nat → Int32) (k0_third : Nat → Int32) (k0_isParted : Int32) (k0_parts : Int32) (k0_found : Int32) (p1 : Int32) (p2 : Int32) (res : Int32 × (Nat → Int32) × (Nat → Int32) × (Nat → Int32)) (hf : fX6_after k0_one k0_other k0_third p1 p2 = some res) : Ct l yX6_after wsX6_after rmX6_after G [.ref q0, .int p1, .int p2] (wdX6_after G q0 q0_one q0_other q0_third q0_waysTo q0_poly q0_then q0_steps q0_sheet q0_next q0_wide q0_partOf q0_partTimes q0_foundAt k0_one k0_other k0_third k0_isParted k0_parts k0_found) (wdX6_after G q0 q0_one q0_other q0_third q0_waysTo q0_poly q0_then q0_steps q0_sheet q0_next q0_wide q0_partOf q0_partTimes q0_foundAt res.2.1 res.2.2.1 res.2.2.2 k0_isParted k0_parts k0_found) (some (.int res.1)) := by
  refine Ct.of (cc := cX6_after) (nL := 4) (ret := (some .int)) (by decide) rfl (Nat.le_of_ble_eq_true rfl) rfl ?_
  intro p e s m below meth c A ls C hP hD hl
  obtain ⟨hx, hb, hml, hown, hts, hr, hlocks, hA, hG⟩ := id C
  have hS : va_S A s.heap s.heap [] := va_S.rf
  unfold fX6_after at hf
  refine lv_iload_n hx hb dX6_after_0 rfl (lv_at hl 1 rfl) ?_
  refine lv_aload_n hx hb dX6_after_1 rfl (lv_at hl 0 rfl) ?_
  refine va_get (D := G.1) (ci := 6) (v := .ref q0_one) (C := RX6) (T := TX6) (N := 16) hx hb hts nX6_after_X6 hown hG.1 hP 0 rfl rfl 0 (by decide) (hts _ mX6_after_1) (fun _ h9 => h9) rfl dX6_after_2 ?_
  obtain ⟨r6, hr6, hf⟩ := bd_use hf
  refine cl_S (wn := (wdX6_after G q0 q0_one q0_other q0_third q0_waysTo q0_poly q0_then q0_steps q0_sheet q0_next q0_wide q0_partOf q0_partTimes q0_foundAt r6.2 k0_other k0_third k0_isParted k0_parts k0_found)) (st1 := [.int r6.1]) C hP hD hS (tX6_lays l G q0_one k0_one p1 r6 hr6) (va_cwS 2 hts gX6_after_X6_lays rfl rfl rfl (by decide +kernel) ⟨Nat.le_of_ble_eq_true rfl, Nat.le_of_ble_eq_true rfl⟩) [1] [0, 2, 3] [0, 3, 1, 2] rfl rfl rfl rfl (by decide) rfl rfl rfl hl.1 rfl rfl (Nat.le_of_ble_eq_true rfl) dX6_after_5 (fun H locs hP hD hS => ?_)
  refine lv_if_eq (tgt := 22) hx hb dX6_after_8 (by decide) (fun hc => ?_) (fun hc => ?_)
  · have hf := if_t hc hf
    refine lv_bipush (v := (-2 : Int32)) hx hb dX6_after_22 (by decide) ?_
    cases hf
    exact rt_i C hP hD hS dX6_after_24
  · have hf := if_f hc hf
    refine lv_iload_n hx hb dX6_after_11 rfl (lv_at hl 2 rfl) ?_
    refine lv_aload_n hx hb dX6_after_12 rfl (lv_at hl 0 rfl) ?_
    refine va_get (D := G.1) (ci := 6) (v := .ref q0_other) (C := RX6) (T := TX6) (N := 16) hx hb hts nX6_after_X6 hown hG.1 hP 0 rfl rfl 1 (by decide) (hts _ mX6_after_2) (fun _ h9 => h9) rfl dX6_after_13 ?_
    obtain ⟨r7, hr7, hf⟩ := bd_use hf
    refine cl_S (wn := (wdX6_after G q0 q0_one q0_other q0_third q0_waysTo q0_poly q0_then q0_steps q0_sheet q0_next q0_wide q0_partOf q0_partTimes q0_foundAt r6.2 r7.2 k0_third k0_isParted k0_parts k0_found)) (st1 := [.int r7.1]) C hP hD hS (tX6_lays l G q0_other k0_other p2 r7 hr7) (va_cwS 2 hts gX6_after_X6_lays rfl rfl rfl (by decide +kernel) ⟨Nat.le_of_ble_eq_true rfl, Nat.le_of_ble_eq_true rfl⟩) [2] [0, 1, 3] [0, 1, 3, 2] rfl rfl rfl rfl (by decide) rfl rfl rfl hl.1 rfl rfl (Nat.le_of_ble_eq_true rfl) dX6_after_16 (fun H locs hP hD hS => ?_)
    refine lv_if_ne (tgt := 25) hx hb dX6_after_19 (by decide) (fun hc => ?_) (fun hc => ?_)
    · have hf := if_f hc hf
      refine lv_iconst (v := (1 : Int32)) hx hb dX6_after_25 (by decide) ?_
      refine lv_istore_n (lv' := [(3, .int (1 : Int32)), (0, .ref q0), (1, .int p1), (2, .int p2)]) hx hb dX6_after_26 rfl hl (by decide) rfl (fun ls hl => ?_)
      exact wX6_after_27 C q0 q0_one q0_other q0_third q0_waysTo q0_poly q0_then q0_steps q0_sheet q0_next q0_wide q0_partOf q0_partTimes q0_foundAt k0_isParted k0_parts k0_found p1 p2 res fu r6.2 r7.2 k0_third (1 : Int32) _ _ ls hf hP hD hS (lv_sub hl [1, 0] rfl)
    · have hf := if_t hc hf
      refine lv_bipush (v := (-2 : Int32)) hx hb dX6_after_22 (by decide) ?_
      cases hf
      exact rt_i C hP hD hS dX6_after_24
abbrev wdX6_laysCode (G : GX) (q0 : Nat) (q5 : Nat) (k5 : Nat → Int32) : va_W := [(q5, .inl (G.2.1, 10, .inl k5))]
abbrev rmX6_laysCode : Room := { frames := 0, cells := 0, slots := 0, locals := 0 }
abbrev glX6_laysCode (p : Program) (l : Launch) (e : Env) (s : State) (m : MethodId) (args : Array Value) (below : List Frame) (meth : Method) (c : Code) (G : GX) (A : Nat → Prop) (q0 : Nat) (q5 : Nat) (res : (Nat → Int32)) (H : Heap) (locs : List Loc) (pc : Nat) (ls : Array Slot) (st : List Value) : Prop := W p l e rmX6_laysCode s m args below meth c H locs 0 0 (MQ below (ctQ G A (wdX6_laysCode G q0 q5 res) none) args s 0 0 A) (F0 m pc ls st)
set_option maxHeartbeats 4000000 in
set_option maxRecDepth 100000 in
theorem wX6_laysCode_76 {p : Program} {l : Launch} {e : Env} {s : State} {m : MethodId} {args : Array Value} {below : List Frame} {meth : Method} {c : Code} {G : GX} {A : Nat → Prop} (C : Cx p s m args meth c cX6_laysCode 10 none wsX6_laysCode RX6 G A) (q0 : Nat) (q5 : Nat) (p1 : Int32) (p2 : Int32) (p3 : Int32) (p4 : Int32) (res : (Nat → Int32)) (rec6 : (Nat → Int32) → Int32 → Int32 → Option ((Nat → Int32))) (hr6 : ∀ (k5 : Nat → Int32) (x6 : Int32) (x7 : Int32) (H : Heap) (locs : List Loc) (ls : Array Slot), rec6 k5 x6 x7 = some res → va_P G.1 vwCl (wdX6_laysCode G q0 q5 k5) H → va_D A (wdX6_laysCode G q0 q5 k5) → va_S A s.heap H locs → lv_has ls 10 [(1, .int p1), (2, .int p2), (3, .int p3), (4, .int p4), (5, .ref q5), (6, .int x6), (7, .int x7)] → glX6_laysCode p l e s m args below meth c G A q0 q5 res H locs 6 ls []) (rec60 : (Nat → Int32) → Int32 → Int32 → Int32 → Int32 → Option ((Nat → Int32))) (hr60 : ∀ (k5 : Nat → Int32) (x6 : Int32) (x7 : Int32) (x8 : Int32) (x9 : Int32) (H : Heap) (locs : List Loc) (ls : Array Slot), rec60 k5 x6 x7 x8 x9 = some res → va_P G.1 vwCl (wdX6_laysCode G q0 q5 k5) H → va_D A (wdX6_laysCode G q0 q5 k5) → va_S A s.heap H locs → lv_has ls 10 [(1, .int p1), (2, .int p2), (3, .int p3), (4, .int p4), (5, .ref q5), (6, .int x6), (7, .int x7), (8, .int x8), (9, .int x9)] → glX6_laysCode p l e s m args below meth c G A q0 q5 res H locs 60 ls []) : ∀ (k5 : Nat → Int32) (x6 : Int32) (x7 : Int32) (x8 : Int32) (x9 : Int32) (H : Heap) (locs : List Loc) (ls : Array Slot), fX6_laysCode_b76 p1 p2 p3 p4 rec6 rec60 k5 x6 x7 x8 x9 = some res → va_P G.1 vwCl (wdX6_laysCode G q0 q5 k5) H → va_D A (wdX6_laysCode G q0 q5 k5) → va_S A s.heap H locs → lv_has ls 10 [(1, .int p1), (2, .int p2), (3, .int p3), (4, .int p4), (5, .ref q5), (6, .int x6), (7, .int x7), (8, .int x8), (9, .int x9)] → glX6_laysCode p l e s m args below meth c G A q0 q5 res H locs 76 ls [] := by
  obtain ⟨hx, hb, hml, hown, hts, hr, hlocks, hA, hG⟩ := id C
  intro k5 x6 x7 x8 x9 H locs ls hf hP hD hS hl
  unfold fX6_laysCode_b76 at hf
  refine lv_iload hx hb dX6_laysCode_76 (lv_at hl 7 rfl) ?_
  refine lv_iload hx hb dX6_laysCode_78 (lv_at hl 5 rfl) ?_
  refine lv_iload hx hb dX6_laysCode_80 (lv_at hl 8 rfl) ?_
  refine lv_ishr hx hb dX6_laysCode_82 ?_
  refine lv_iconst (v := (1 : Int32)) hx hb dX6_laysCode_83 (by decide) ?_
  refine lv_iand hx hb dX6_laysCode_84 ?_
  refine lv_iconst (v := (1 : Int32)) hx hb dX6_laysCode_85 (by decide) ?_
  refine lv_icmp_ne (tgt := 93) hx hb dX6_laysCode_86 (by decide) (fun hc => ?_) (fun hc => ?_)
  · have hf := if_f hc hf
    refine lv_iconst (v := (1 : Int32)) hx hb dX6_laysCode_93 (by decide) ?_
    refine lv_isub hx hb dX6_laysCode_94 ?_
    refine lv_topi (fun y1 ey1 => ?_)
    have hf := nm_use ey1 hf
    refine lv_istore (lv' := [(8, .int y1), (1, .int p1), (2, .int p2), (3, .int p3), (4, .int p4), (5, .ref q5), (6, .int x6), (7, .int x7), (9, .int x9)]) hx hb dX6_laysCode_95 hl (by decide) rfl (fun ls hl => ?_)
    obtain ⟨y2, ey2⟩ : ∃ z : Int32, z = x9 + (1 : Int32) := ⟨_, rfl⟩
    have hf := nm_use ey2 hf
    refine lv_iinc (v := y2) (lv' := [(9, .int y2), (8, .int y1), (1, .int p1), (2, .int p2), (3, .int p3), (4, .int p4), (5, .ref q5), (6, .int x6), (7, .int x7)]) hx hb dX6_laysCode_97 hl (k := 8) rfl (by rw [ey2]; rfl) (by decide) rfl (fun ls hl => ?_)
    refine lv_goto (tgt := 60) hx hb dX6_laysCode_100 (by decide) ?_
    exact hr60 k5 x6 x7 y1 y2 _ _ ls hf hP hD hS (lv_sub hl [2, 3, 4, 5, 6, 7, 8, 1, 0] rfl)
  · have hf := if_t hc hf
    refine lv_iconst (v := (0 : Int32)) hx hb dX6_laysCode_89 (by decide) ?_
    refine lv_goto (tgt := 94) hx hb dX6_laysCode_90 (by decide) ?_
    refine lv_isub hx hb dX6_laysCode_94 ?_
    refine lv_topi (fun y3 ey3 => ?_)
    have hf := nm_use ey3 hf
    refine lv_istore (lv' := [(8, .int y3), (1, .int p1), (2, .int p2), (3, .int p3), (4, .int p4), (5, .ref q5), (6, .int x6), (7, .int x7), (9, .int x9)]) hx hb dX6_laysCode_95 hl (by decide) rfl (fun ls hl => ?_)
    obtain ⟨y4, ey4⟩ : ∃ z : Int32, z = x9 + (1 : Int32) := ⟨_, rfl⟩
    have hf := nm_use ey4 hf
    refine lv_iinc (v := y4) (lv' := [(9, .int y4), (8, .int y3), (1, .int p1), (2, .int p2), (3, .int p3), (4, .int p4), (5, .ref q5), (6, .int x6), (7, .int x7)]) hx hb dX6_laysCode_97 hl (k := 8) rfl (by rw [ey4]; rfl) (by decide) rfl (fun ls hl => ?_)
    refine lv_goto (tgt := 60) hx hb dX6_laysCode_100 (by decide) ?_
    exact hr60 k5 x6 x7 y3 y4 _ _ ls hf hP hD hS (lv_sub hl [2, 3, 4, 5, 6, 7, 8, 1, 0] rfl)
set_option maxHeartbeats 4000000 in
set_option maxRecDepth 100000 in
theorem wX6_laysCode_60 {p : Program} {l : Launch} {e : Env} {s : State} {m : MethodId} {args : Array Value} {below : List Frame} {meth : Method} {c : Code} {G : GX} {A : Nat → Prop} (C : Cx p s m args meth c cX6_laysCode 10 none wsX6_laysCode RX6 G A) (q0 : Nat) (q5 : Nat) (p1 : Int32) (p2 : Int32) (p3 : Int32) (p4 : Int32) (res : (Nat → Int32)) (rec6 : (Nat → Int32) → Int32 → Int32 → Option ((Nat → Int32))) (hr6 : ∀ (k5 : Nat → Int32) (x6 : Int32) (x7 : Int32) (H : Heap) (locs : List Loc) (ls : Array Slot), rec6 k5 x6 x7 = some res → va_P G.1 vwCl (wdX6_laysCode G q0 q5 k5) H → va_D A (wdX6_laysCode G q0 q5 k5) → va_S A s.heap H locs → lv_has ls 10 [(1, .int p1), (2, .int p2), (3, .int p3), (4, .int p4), (5, .ref q5), (6, .int x6), (7, .int x7)] → glX6_laysCode p l e s m args below meth c G A q0 q5 res H locs 6 ls []) (n : Nat) : ∀ (k5 : Nat → Int32) (x6 : Int32) (x7 : Int32) (x8 : Int32) (x9 : Int32) (H : Heap) (locs : List Loc) (ls : Array Slot), fX6_laysCode_L60 p1 p2 p3 p4 rec6 n k5 x6 x7 x8 x9 = some res → va_P G.1 vwCl (wdX6_laysCode G q0 q5 k5) H → va_D A (wdX6_laysCode G q0 q5 k5) → va_S A s.heap H locs → lv_has ls 10 [(1, .int p1), (2, .int p2), (3, .int p3), (4, .int p4), (5, .ref q5), (6, .int x6), (7, .int x7), (8, .int x8), (9, .int x9)] → glX6_laysCode p l e s m args below meth c G A q0 q5 res H locs 60 ls [] := by
  obtain ⟨hx, hb, hml, hown, hts, hr, hlocks, hA, hG⟩ := id C
  induction n with
  | zero => intro k5 x6 x7 x8 x9 H locs ls hf hP hD hS hl; cases hf
  | succ n ih =>
    intro k5 x6 x7 x8 x9 H locs ls hf hP hD hS hl
    simp only [fX6_laysCode_L60] at hf
    refine lv_iload hx hb dX6_laysCode_60 (lv_at hl 5 rfl) ?_
    refine lv_iload hx hb dX6_laysCode_62 (lv_at hl 8 rfl) ?_
    refine lv_ishr hx hb dX6_laysCode_64 ?_
    refine lv_iconst (v := (1 : Int32)) hx hb dX6_laysCode_65 (by decide) ?_
    refine lv_iand hx hb dX6_laysCode_66 ?_
    refine lv_iconst (v := (1 : Int32)) hx hb dX6_laysCode_67 (by decide) ?_
    refine lv_icmp_eq (tgt := 76) hx hb dX6_laysCode_68 (by decide) (fun hc => ?_) (fun hc => ?_)
    · have hf := if_t hc hf
      exact wX6_laysCode_76 C q0 q5 p1 p2 p3 p4 res rec6 hr6 (fX6_laysCode_L60 p1 p2 p3 p4 rec6 n) ih k5 x6 x7 x8 x9 _ _ ls hf hP hD hS (lv_sub hl [0, 1, 2, 3, 4, 5, 6, 7, 8] rfl)
    · have hf := if_f hc hf
      refine lv_iload hx hb dX6_laysCode_71 (lv_at hl 7 rfl) ?_
      refine lv_if_le (tgt := 103) hx hb dX6_laysCode_73 (by decide) (fun hc => ?_) (fun hc => ?_)
      · have hf := if_t hc hf
        refine lv_aload hx hb dX6_laysCode_103 (lv_at hl 4 rfl) ?_
        refine lv_iload hx hb dX6_laysCode_105 (lv_at hl 6 rfl) ?_
        refine lv_iload hx hb dX6_laysCode_107 (lv_at hl 8 rfl) ?_
        obtain ⟨hin, hf⟩ := pI_use hf
        refine va_iast hx hb hG.1 hP hD hS 0 0 rfl rfl hin dX6_laysCode_109 (fun H locs hP hD hS => ?_)
        have hP : va_P G.1 vwCl (wdX6_laysCode G q0 q5 (upd k5 (x7).toNatClampNeg x9)) H := hP
        have hD : va_D A (wdX6_laysCode G q0 q5 (upd k5 (x7).toNatClampNeg x9)) := hD
        refine lv_iload hx hb dX6_laysCode_110 (lv_at hl 5 rfl) ?_
        refine lv_iconst (v := (1 : Int32)) hx hb dX6_laysCode_112 (by decide) ?_
        refine lv_iload hx hb dX6_laysCode_113 (lv_at hl 8 rfl) ?_
        refine lv_ishl hx hb dX6_laysCode_115 ?_
        refine lv_ior hx hb dX6_laysCode_116 ?_
        refine lv_topi (fun y6 ey6 => ?_)
        have hf := nm_use ey6 hf
        refine lv_istore (lv' := [(6, .int y6), (1, .int p1), (2, .int p2), (3, .int p3), (4, .int p4), (5, .ref q5), (7, .int x7), (8, .int x8), (9, .int x9)]) hx hb dX6_laysCode_117 hl (by decide) rfl (fun ls hl => ?_)
        obtain ⟨y7, ey7⟩ : ∃ z : Int32, z = x7 + (1 : Int32) := ⟨_, rfl⟩
        have hf := nm_use ey7 hf
        refine lv_iinc (v := y7) (lv' := [(7, .int y7), (6, .int y6), (1, .int p1), (2, .int p2), (3, .int p3), (4, .int p4), (5, .ref q5), (8, .int x8), (9, .int x9)]) hx hb dX6_laysCode_119 hl (k := 6) rfl (by rw [ey7]; rfl) (by decide) rfl (fun ls hl => ?_)
        refine lv_goto (tgt := 6) hx hb dX6_laysCode_122 (by decide) ?_
        exact hr6 (upd k5 (x7).toNatClampNeg x9) y6 y7 _ _ ls hf hP hD hS (lv_sub hl [2, 3, 4, 5, 6, 1, 0] rfl)
      · have hf := if_f hc hf
        exact wX6_laysCode_76 C q0 q5 p1 p2 p3 p4 res rec6 hr6 (fX6_laysCode_L60 p1 p2 p3 p4 rec6 n) ih k5 x6 x7 x8 x9 _ _ ls hf hP hD hS (lv_sub hl [0, 1, 2, 3, 4, 5, 6, 7, 8] rfl)
set_option maxHeartbeats 4000000 in
set_option maxRecDepth 100000 in
theorem wX6_laysCode_6 {p : Program} {l : Launch} {e : Env} {s : State} {m : MethodId} {args : Array Value} {below : List Frame} {meth : Method} {c : Code} {G : GX} {A : Nat → Prop} (C : Cx p s m args meth c cX6_laysCode 10 none wsX6_laysCode RX6 G A) (q0 : Nat) (q5 : Nat) (p1 : Int32) (p2 : Int32) (p3 : Int32) (p4 : Int32) (res : (Nat → Int32)) (n : Nat) : ∀ (k5 : Nat → Int32) (x6 : Int32) (x7 : Int32) (H : Heap) (locs : List Loc) (ls : Array Slot), fX6_laysCode_L6 p1 p2 p3 p4 n k5 x6 x7 = some res → va_P G.1 vwCl (wdX6_laysCode G q0 q5 k5) H → va_D A (wdX6_laysCode G q0 q5 k5) → va_S A s.heap H locs → lv_has ls 10 [(1, .int p1), (2, .int p2), (3, .int p3), (4, .int p4), (5, .ref q5), (6, .int x6), (7, .int x7)] → glX6_laysCode p l e s m args below meth c G A q0 q5 res H locs 6 ls [] := by
  obtain ⟨hx, hb, hml, hown, hts, hr, hlocks, hA, hG⟩ := id C
  induction n with
  | zero => intro k5 x6 x7 H locs ls hf hP hD hS hl; cases hf
  | succ n ih =>
    intro k5 x6 x7 H locs ls hf hP hD hS hl
    simp only [fX6_laysCode_L6] at hf
    refine lv_iload hx hb dX6_laysCode_6 (lv_at hl 6 rfl) ?_
    refine lv_bipush (v := (9 : Int32)) hx hb dX6_laysCode_8 (by decide) ?_
    refine lv_icmp_gt (tgt := 125) hx hb dX6_laysCode_10 (by decide) (fun hc => ?_) (fun hc => ?_)
    · have hf := if_t hc hf
      cases hf
      exact rt_v C hP hD hS dX6_laysCode_125
    · have hf := if_f hc hf
      refine lv_iload hx hb dX6_laysCode_13 (lv_at hl 6 rfl) ?_
      refine lv_iconst (v := (1 : Int32)) hx hb dX6_laysCode_15 (by decide) ?_
      refine lv_icmp_ne (tgt := 23) hx hb dX6_laysCode_16 (by decide) (fun hc => ?_) (fun hc => ?_)
      · have hf := if_f hc hf
        refine lv_iload hx hb dX6_laysCode_23 (lv_at hl 6 rfl) ?_
        refine lv_iconst (v := (2 : Int32)) hx hb dX6_laysCode_25 (by decide) ?_
        refine lv_icmp_ne (tgt := 33) hx hb dX6_laysCode_26 (by decide) (fun hc => ?_) (fun hc => ?_)
        · have hf := if_f hc hf
          refine lv_iload hx hb dX6_laysCode_33 (lv_at hl 6 rfl) ?_
          refine lv_iconst (v := (3 : Int32)) hx hb dX6_laysCode_35 (by decide) ?_
          refine lv_icmp_ne (tgt := 43) hx hb dX6_laysCode_36 (by decide) (fun hc => ?_) (fun hc => ?_)
          · have hf := if_f hc hf
            refine lv_iload hx hb dX6_laysCode_43 (lv_at hl 6 rfl) ?_
            refine lv_iconst (v := (4 : Int32)) hx hb dX6_laysCode_45 (by decide) ?_
            refine lv_icmp_ne (tgt := 54) hx hb dX6_laysCode_46 (by decide) (fun hc => ?_) (fun hc => ?_)
            · have hf := if_f hc hf
              refine lv_iconst (v := (0 : Int32)) hx hb dX6_laysCode_54 (by decide) ?_
              refine lv_istore (lv' := [(8, .int (0 : Int32)), (1, .int p1), (2, .int p2), (3, .int p3), (4, .int p4), (5, .ref q5), (6, .int x6), (7, .int x7)]) hx hb dX6_laysCode_55 hl (by decide) rfl (fun ls hl => ?_)
              refine lv_iconst (v := (1 : Int32)) hx hb dX6_laysCode_57 (by decide) ?_
              refine lv_istore (lv' := [(9, .int (1 : Int32)), (8, .int (0 : Int32)), (1, .int p1), (2, .int p2), (3, .int p3), (4, .int p4), (5, .ref q5), (6, .int x6), (7, .int x7)]) hx hb dX6_laysCode_58 hl (by decide) rfl (fun ls hl => ?_)
              exact wX6_laysCode_60 C q0 q5 p1 p2 p3 p4 res (fX6_laysCode_L6 p1 p2 p3 p4 n) ih fu k5 x6 x7 (0 : Int32) (1 : Int32) _ _ ls hf hP hD hS (lv_sub hl [2, 3, 4, 5, 6, 7, 8, 1, 0] rfl)
            · have hf := if_t hc hf
              refine lv_iload hx hb dX6_laysCode_49 (lv_at hl 3 rfl) ?_
              refine lv_goto (tgt := 55) hx hb dX6_laysCode_51 (by decide) ?_
              refine lv_istore (lv' := [(8, .int p4), (1, .int p1), (2, .int p2), (3, .int p3), (4, .int p4), (5, .ref q5), (6, .int x6), (7, .int x7)]) hx hb dX6_laysCode_55 hl (by decide) rfl (fun ls hl => ?_)
              refine lv_iconst (v := (1 : Int32)) hx hb dX6_laysCode_57 (by decide) ?_
              refine lv_istore (lv' := [(9, .int (1 : Int32)), (8, .int p4), (1, .int p1), (2, .int p2), (3, .int p3), (4, .int p4), (5, .ref q5), (6, .int x6), (7, .int x7)]) hx hb dX6_laysCode_58 hl (by decide) rfl (fun ls hl => ?_)
              exact wX6_laysCode_60 C q0 q5 p1 p2 p3 p4 res (fX6_laysCode_L6 p1 p2 p3 p4 n) ih fu k5 x6 x7 p4 (1 : Int32) _ _ ls hf hP hD hS (lv_sub hl [2, 3, 4, 5, 6, 7, 8, 1, 0] rfl)
          · have hf := if_t hc hf
            refine lv_iload_n hx hb dX6_laysCode_39 rfl (lv_at hl 2 rfl) ?_
            refine lv_goto (tgt := 55) hx hb dX6_laysCode_40 (by decide) ?_
            refine lv_istore (lv' := [(8, .int p3), (1, .int p1), (2, .int p2), (3, .int p3), (4, .int p4), (5, .ref q5), (6, .int x6), (7, .int x7)]) hx hb dX6_laysCode_55 hl (by decide) rfl (fun ls hl => ?_)
            refine lv_iconst (v := (1 : Int32)) hx hb dX6_laysCode_57 (by decide) ?_
            refine lv_istore (lv' := [(9, .int (1 : Int32)), (8, .int p3), (1, .int p1), (2, .int p2), (3, .int p3), (4, .int p4), (5, .ref q5), (6, .int x6), (7, .int x7)]) hx hb dX6_laysCode_58 hl (by decide) rfl (fun ls hl => ?_)
            exact wX6_laysCode_60 C q0 q5 p1 p2 p3 p4 res (fX6_laysCode_L6 p1 p2 p3 p4 n) ih fu k5 x6 x7 p3 (1 : Int32) _ _ ls hf hP hD hS (lv_sub hl [2, 3, 4, 5, 6, 7, 8, 1, 0] rfl)
        · have hf := if_t hc hf
          refine lv_iload_n hx hb dX6_laysCode_29 rfl (lv_at hl 1 rfl) ?_
          refine lv_goto (tgt := 55) hx hb dX6_laysCode_30 (by decide) ?_
          refine lv_istore (lv' := [(8, .int p2), (1, .int p1), (2, .int p2), (3, .int p3), (4, .int p4), (5, .ref q5), (6, .int x6), (7, .int x7)]) hx hb dX6_laysCode_55 hl (by decide) rfl (fun ls hl => ?_)
          refine lv_iconst (v := (1 : Int32)) hx hb dX6_laysCode_57 (by decide) ?_
          refine lv_istore (lv' := [(9, .int (1 : Int32)), (8, .int p2), (1, .int p1), (2, .int p2), (3, .int p3), (4, .int p4), (5, .ref q5), (6, .int x6), (7, .int x7)]) hx hb dX6_laysCode_58 hl (by decide) rfl (fun ls hl => ?_)
          exact wX6_laysCode_60 C q0 q5 p1 p2 p3 p4 res (fX6_laysCode_L6 p1 p2 p3 p4 n) ih fu k5 x6 x7 p2 (1 : Int32) _ _ ls hf hP hD hS (lv_sub hl [2, 3, 4, 5, 6, 7, 8, 1, 0] rfl)
      · have hf := if_t hc hf
        refine lv_iload_n hx hb dX6_laysCode_19 rfl (lv_at hl 0 rfl) ?_
        refine lv_goto (tgt := 55) hx hb dX6_laysCode_20 (by decide) ?_
        refine lv_istore (lv' := [(8, .int p1), (1, .int p1), (2, .int p2), (3, .int p3), (4, .int p4), (5, .ref q5), (6, .int x6), (7, .int x7)]) hx hb dX6_laysCode_55 hl (by decide) rfl (fun ls hl => ?_)
        refine lv_iconst (v := (1 : Int32)) hx hb dX6_laysCode_57 (by decide) ?_
        refine lv_istore (lv' := [(9, .int (1 : Int32)), (8, .int p1), (1, .int p1), (2, .int p2), (3, .int p3), (4, .int p4), (5, .ref q5), (6, .int x6), (7, .int x7)]) hx hb dX6_laysCode_58 hl (by decide) rfl (fun ls hl => ?_)
        exact wX6_laysCode_60 C q0 q5 p1 p2 p3 p4 res (fX6_laysCode_L6 p1 p2 p3 p4 n) ih fu k5 x6 x7 p1 (1 : Int32) _ _ ls hf hP hD hS (lv_sub hl [2, 3, 4, 5, 6, 7, 8, 1, 0] rfl)
set_option maxHeartbeats 4000000 in
set_option maxRecDepth 100000 in
theorem tX6_laysCode (l : Launch) (G : GX) (q0 : Nat) (q5 : Nat) (k5 : Nat → Int32) (p1 : Int32) (p2 : Int32) (p3 : Int32) (p4 : Int32) (res : (Nat → Int32)) (hf : fX6_laysCode k5 p1 p2 p3 p4 = some res) : Ct l yX6_laysCode wsX6_laysCode rmX6_laysCode G [.ref q0, .int p1, .int p2, .int p3, .int p4, .ref q5] (wdX6_laysCode G q0 q5 k5) (wdX6_laysCode G q0 q5 res) none := by
  refine Ct.of (cc := cX6_laysCode) (nL := 10) (ret := none) (by decide) rfl (Nat.le_of_ble_eq_true rfl) rfl ?_
  intro p e s m below meth c A ls C hP hD hl
  obtain ⟨hx, hb, hml, hown, hts, hr, hlocks, hA, hG⟩ := id C
  have hS : va_S A s.heap s.heap [] := va_S.rf
  unfold fX6_laysCode at hf
  refine lv_iconst (v := (0 : Int32)) hx hb dX6_laysCode_0 (by decide) ?_
  refine lv_istore (lv' := [(6, .int (0 : Int32)), (0, .ref q0), (1, .int p1), (2, .int p2), (3, .int p3), (4, .int p4), (5, .ref q5)]) hx hb dX6_laysCode_1 hl (by decide) rfl (fun ls hl => ?_)
  refine lv_iconst (v := (1 : Int32)) hx hb dX6_laysCode_3 (by decide) ?_
  refine lv_istore (lv' := [(7, .int (1 : Int32)), (6, .int (0 : Int32)), (0, .ref q0), (1, .int p1), (2, .int p2), (3, .int p3), (4, .int p4), (5, .ref q5)]) hx hb dX6_laysCode_4 hl (by decide) rfl (fun ls hl => ?_)
  exact wX6_laysCode_6 C q0 q5 p1 p2 p3 p4 res fu k5 (0 : Int32) (1 : Int32) _ _ ls hf hP hD hS (lv_sub hl [3, 4, 5, 6, 7, 1, 0] rfl)
abbrev wdX6_ofCode (G : GX) (q0 : Nat) (q0_one : Nat) (q0_other : Nat) (q0_third : Nat) (q0_waysTo : Nat) (q0_poly : Nat) (q0_then : Nat) (q0_steps : Nat) (q0_sheet : Nat) (q0_next : Nat) (q0_wide : Nat) (q0_partOf : Nat) (q0_partTimes : Nat) (q0_foundAt : Nat) (k0_one : Nat → Int32) (k0_isParted : Int32) (k0_parts : Int32) (k0_found : Int32) : va_W := [(q0, .inr (6, [.ref q0_one, .ref q0_other, .ref q0_third, .ref q0_waysTo, .ref q0_poly, .ref q0_then, .ref q0_steps, .ref q0_sheet, .ref q0_next, .int k0_isParted, .ref q0_wide, .int k0_parts, .ref q0_partOf, .ref q0_partTimes, .int k0_found, .ref q0_foundAt])), (q0_one, .inl (G.2.1, 10, .inl k0_one))]
abbrev rmX6_ofCode : Room := { frames := 1, cells := 0, slots := 0, locals := 29 }
abbrev glX6_ofCode (p : Program) (l : Launch) (e : Env) (s : State) (m : MethodId) (args : Array Value) (below : List Frame) (meth : Method) (c : Code) (G : GX) (A : Nat → Prop) (q0 : Nat) (q0_one : Nat) (q0_other : Nat) (q0_third : Nat) (q0_waysTo : Nat) (q0_poly : Nat) (q0_then : Nat) (q0_steps : Nat) (q0_sheet : Nat) (q0_next : Nat) (q0_wide : Nat) (q0_partOf : Nat) (q0_partTimes : Nat) (q0_foundAt : Nat) (k0_isParted : Int32) (k0_parts : Int32) (k0_found : Int32) (res : Int32 × (Nat → Int32)) (H : Heap) (locs : List Loc) (pc : Nat) (ls : Array Slot) (st : List Value) : Prop := W p l e rmX6_ofCode s m args below meth c H locs 0 0 (MQ below (ctQ G A (wdX6_ofCode G q0 q0_one q0_other q0_third q0_waysTo q0_poly q0_then q0_steps q0_sheet q0_next q0_wide q0_partOf q0_partTimes q0_foundAt res.2 k0_isParted k0_parts k0_found) (some (.int res.1))) args s 0 0 A) (F0 m pc ls st)
set_option maxRecDepth 20000 in
theorem mX6_ofCode_0 : Cond.fieldLink RX6 7 "SchubertDeskModel" "one" "[I" ∈ wsX6_ofCode := by decide +kernel
set_option maxRecDepth 20000 in
theorem nX6_ofCode_X6 : ∀ w ∈ u_ws RX6 TX6 16, w ∈ wsX6_ofCode := by decide +kernel
set_option maxHeartbeats 4000000 in
set_option maxRecDepth 100000 in
theorem tX6_ofCode (l : Launch) (G : GX) (q0 : Nat) (q0_one : Nat) (q0_other : Nat) (q0_third : Nat) (q0_waysTo : Nat) (q0_poly : Nat) (q0_then : Nat) (q0_steps : Nat) (q0_sheet : Nat) (q0_next : Nat) (q0_wide : Nat) (q0_partOf : Nat) (q0_partTimes : Nat) (q0_foundAt : Nat) (k0_one : Nat → Int32) (k0_isParted : Int32) (k0_parts : Int32) (k0_found : Int32) (p1 : Int32) (p2 : Int32) (p3 : Int32) (p4 : Int32) (res : Int32 × (Nat → Int32)) (hf : fX6_ofCode k0_one p1 p2 p3 p4 = some res) : Ct l yX6_ofCode wsX6_ofCode rmX6_ofCode G [.ref q0, .int p1, .int p2, .int p3, .int p4] (wdX6_ofCode G q0 q0_one q0_other q0_third q0_waysTo q0_poly q0_then q0_steps q0_sheet q0_next q0_wide q0_partOf q0_partTimes q0_foundAt k0_one k0_isParted k0_parts k0_found) (wdX6_ofCode G q0 q0_one q0_other q0_third q0_waysTo q0_poly q0_then q0_steps q0_sheet q0_next q0_wide q0_partOf q0_partTimes q0_foundAt res.2 k0_isParted k0_parts k0_found) (some (.int res.1)) := by
  refine Ct.of (cc := cX6_ofCode) (nL := 5) (ret := (some .int)) (by decide) rfl (Nat.le_of_ble_eq_true rfl) rfl ?_
  intro p e s m below meth c A ls C hP hD hl
  obtain ⟨hx, hb, hml, hown, hts, hr, hlocks, hA, hG⟩ := id C
  have hS : va_S A s.heap s.heap [] := va_S.rf
  unfold fX6_ofCode at hf
  refine lv_iload_n hx hb dX6_ofCode_0 rfl (lv_at hl 1 rfl) ?_
  refine lv_iconst (v := (0 : Int32)) hx hb dX6_ofCode_1 (by decide) ?_
  refine lv_bipush (v := (8 : Int32)) hx hb dX6_ofCode_2 (by decide) ?_
  obtain ⟨r1, hr1, hf⟩ := bd_use hf
  refine cl_S (wn := (wdX6_ofCode G q0 q0_one q0_other q0_third q0_waysTo q0_poly q0_then q0_steps q0_sheet q0_next q0_wide q0_partOf q0_partTimes q0_foundAt k0_one k0_isParted k0_parts k0_found)) (st1 := [.int r1]) C hP hD hS (tX6_within l G p1 (0 : Int32) (8 : Int32) r1 hr1) (va_cwS 3 hts gX6_ofCode_X6_within rfl rfl rfl (by decide +kernel) ⟨Nat.le_of_ble_eq_true rfl, Nat.le_of_ble_eq_true rfl⟩) [] [0, 1] [0, 1] rfl rfl rfl rfl (by decide) rfl rfl rfl hl.1 rfl rfl (Nat.le_of_ble_eq_true rfl) dX6_ofCode_4 (fun H locs hP hD hS => ?_)
  refine lv_if_eq (tgt := 40) hx hb dX6_ofCode_7 (by decide) (fun hc => ?_) (fun hc => ?_)
  · have hf := if_t hc hf
    refine lv_bipush (v := (-2 : Int32)) hx hb dX6_ofCode_40 (by decide) ?_
    cases hf
    exact rt_i C hP hD hS dX6_ofCode_42
  · have hf := if_f hc hf
    refine lv_iload_n hx hb dX6_ofCode_10 rfl (lv_at hl 2 rfl) ?_
    refine lv_iconst (v := (0 : Int32)) hx hb dX6_ofCode_11 (by decide) ?_
    refine lv_bipush (v := (7 : Int32)) hx hb dX6_ofCode_12 (by decide) ?_
    obtain ⟨r2, hr2, hf⟩ := bd_use hf
    refine cl_S (wn := (wdX6_ofCode G q0 q0_one q0_other q0_third q0_waysTo q0_poly q0_then q0_steps q0_sheet q0_next q0_wide q0_partOf q0_partTimes q0_foundAt k0_one k0_isParted k0_parts k0_found)) (st1 := [.int r2]) C hP hD hS (tX6_within l G p2 (0 : Int32) (7 : Int32) r2 hr2) (va_cwS 3 hts gX6_ofCode_X6_within rfl rfl rfl (by decide +kernel) ⟨Nat.le_of_ble_eq_true rfl, Nat.le_of_ble_eq_true rfl⟩) [] [0, 1] [0, 1] rfl rfl rfl rfl (by decide) rfl rfl rfl hl.1 rfl rfl (Nat.le_of_ble_eq_true rfl) dX6_ofCode_14 (fun H locs hP hD hS => ?_)
    refine lv_if_eq (tgt := 40) hx hb dX6_ofCode_17 (by decide) (fun hc => ?_) (fun hc => ?_)
    · have hf := if_t hc hf
      refine lv_bipush (v := (-2 : Int32)) hx hb dX6_ofCode_40 (by decide) ?_
      cases hf
      exact rt_i C hP hD hS dX6_ofCode_42
    · have hf := if_f hc hf
      refine lv_iload_n hx hb dX6_ofCode_20 rfl (lv_at hl 3 rfl) ?_
      refine lv_iconst (v := (0 : Int32)) hx hb dX6_ofCode_21 (by decide) ?_
      refine lv_bipush (v := (6 : Int32)) hx hb dX6_ofCode_22 (by decide) ?_
      obtain ⟨r3, hr3, hf⟩ := bd_use hf
      refine cl_S (wn := (wdX6_ofCode G q0 q0_one q0_other q0_third q0_waysTo q0_poly q0_then q0_steps q0_sheet q0_next q0_wide q0_partOf q0_partTimes q0_foundAt k0_one k0_isParted k0_parts k0_found)) (st1 := [.int r3]) C hP hD hS (tX6_within l G p3 (0 : Int32) (6 : Int32) r3 hr3) (va_cwS 3 hts gX6_ofCode_X6_within rfl rfl rfl (by decide +kernel) ⟨Nat.le_of_ble_eq_true rfl, Nat.le_of_ble_eq_true rfl⟩) [] [0, 1] [0, 1] rfl rfl rfl rfl (by decide) rfl rfl rfl hl.1 rfl rfl (Nat.le_of_ble_eq_true rfl) dX6_ofCode_24 (fun H locs hP hD hS => ?_)
      refine lv_if_eq (tgt := 40) hx hb dX6_ofCode_27 (by decide) (fun hc => ?_) (fun hc => ?_)
      · have hf := if_t hc hf
        refine lv_bipush (v := (-2 : Int32)) hx hb dX6_ofCode_40 (by decide) ?_
        cases hf
        exact rt_i C hP hD hS dX6_ofCode_42
      · have hf := if_f hc hf
        refine lv_iload hx hb dX6_ofCode_30 (lv_at hl 4 rfl) ?_
        refine lv_iconst (v := (0 : Int32)) hx hb dX6_ofCode_32 (by decide) ?_
        refine lv_iconst (v := (5 : Int32)) hx hb dX6_ofCode_33 (by decide) ?_
        obtain ⟨r4, hr4, hf⟩ := bd_use hf
        refine cl_S (wn := (wdX6_ofCode G q0 q0_one q0_other q0_third q0_waysTo q0_poly q0_then q0_steps q0_sheet q0_next q0_wide q0_partOf q0_partTimes q0_foundAt k0_one k0_isParted k0_parts k0_found)) (st1 := [.int r4]) C hP hD hS (tX6_within l G p4 (0 : Int32) (5 : Int32) r4 hr4) (va_cwS 3 hts gX6_ofCode_X6_within rfl rfl rfl (by decide +kernel) ⟨Nat.le_of_ble_eq_true rfl, Nat.le_of_ble_eq_true rfl⟩) [] [0, 1] [0, 1] rfl rfl rfl rfl (by decide) rfl rfl rfl hl.1 rfl rfl (Nat.le_of_ble_eq_true rfl) dX6_ofCode_34 (fun H locs hP hD hS => ?_)
        refine lv_if_ne (tgt := 43) hx hb dX6_ofCode_37 (by decide) (fun hc => ?_) (fun hc => ?_)
        · have hf := if_f hc hf
          refine lv_aload_n hx hb dX6_ofCode_43 rfl (lv_at hl 0 rfl) ?_
          refine lv_iload_n hx hb dX6_ofCode_44 rfl (lv_at hl 1 rfl) ?_
          refine lv_iload_n hx hb dX6_ofCode_45 rfl (lv_at hl 2 rfl) ?_
          refine lv_iload_n hx hb dX6_ofCode_46 rfl (lv_at hl 3 rfl) ?_
          refine lv_iload hx hb dX6_ofCode_47 (lv_at hl 4 rfl) ?_
          refine lv_aload_n hx hb dX6_ofCode_49 rfl (lv_at hl 0 rfl) ?_
          refine va_get (D := G.1) (ci := 6) (v := .ref q0_one) (C := RX6) (T := TX6) (N := 16) hx hb hts nX6_ofCode_X6 hown hG.1 hP 0 rfl rfl 0 (by decide) (hts _ mX6_ofCode_0) (fun _ h9 => h9) rfl dX6_ofCode_50 ?_
          obtain ⟨r5, hr5, hf⟩ := bd_use hf
          refine cl_V (wn := (wdX6_ofCode G q0 q0_one q0_other q0_third q0_waysTo q0_poly q0_then q0_steps q0_sheet q0_next q0_wide q0_partOf q0_partTimes q0_foundAt r5 k0_isParted k0_parts k0_found)) (st1 := []) C hP hD hS (tX6_laysCode l G q0 q0_one k0_one p1 p2 p3 p4 r5 hr5) (cwV 5 hts gX6_ofCode_X6_laysCode rfl rfl rfl (by decide +kernel) ⟨Nat.le_of_ble_eq_true rfl, Nat.le_of_ble_eq_true rfl⟩) [1] [0] [0, 1] rfl rfl rfl rfl (by decide) rfl rfl (ci := 6) (q0 := 0) rfl rfl rfl rfl hl.1 rfl rfl (Nat.le_of_ble_eq_true rfl) dX6_ofCode_53 (fun H locs hP hD hS => ?_)
          refine lv_aload_n hx hb dX6_ofCode_56 rfl (lv_at hl 0 rfl) ?_
          refine va_get (D := G.1) (ci := 6) (v := .ref q0_one) (C := RX6) (T := TX6) (N := 16) hx hb hts nX6_ofCode_X6 hown hG.1 hP 0 rfl rfl 0 (by decide) (hts _ mX6_ofCode_0) (fun _ h9 => h9) rfl dX6_ofCode_57 ?_
          obtain ⟨r6, hr6, hf⟩ := bd_use hf
          refine cl_S (wn := (wdX6_ofCode G q0 q0_one q0_other q0_third q0_waysTo q0_poly q0_then q0_steps q0_sheet q0_next q0_wide q0_partOf q0_partTimes q0_foundAt r5 k0_isParted k0_parts k0_found)) (st1 := [.int r6]) C hP hD hS (tX6_plainOf l G q0_one r5 r6 hr6) (va_cwS 1 hts gX6_ofCode_X6_plainOf rfl rfl rfl (by decide +kernel) ⟨Nat.le_of_ble_eq_true rfl, Nat.le_of_ble_eq_true rfl⟩) [1] [0] [0, 1] rfl rfl rfl rfl (by decide) rfl rfl rfl hl.1 rfl rfl (Nat.le_of_ble_eq_true rfl) dX6_ofCode_60 (fun H locs hP hD hS => ?_)
          cases hf
          exact rt_i C hP hD hS dX6_ofCode_63
        · have hf := if_t hc hf
          refine lv_bipush (v := (-2 : Int32)) hx hb dX6_ofCode_40 (by decide) ?_
          cases hf
          exact rt_i C hP hD hS dX6_ofCode_42
