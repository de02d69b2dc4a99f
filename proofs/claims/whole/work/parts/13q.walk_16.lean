abbrev wdX6_difference (G : GX) (q0 : Nat) (q0_one : Nat) (q0_other : Nat) (q0_third : Nat) (q0_waysTo : Nat) (q0_poly : Nat) (q0_then : Nat) (q0_steps : Nat) (q0_sheet : Nat) (q0_next : Nat) (q0_wide : Nat) (q0_partOf : Nat) (q0_partTimes : Nat) (q0_foundAt : Nat) (k0_then : Nat → Int64) (k0_sheet : Nat → Int64) (k0_next : Nat → Int64) (k0_isParted : Int32) (k0_parts : Int32) (k0_found : Int32) : va_W := [(q0, .inr (6, [.ref q0_one, .ref q0_other, .ref q0_third, .ref q0_waysTo, .ref q0_poly, .ref q0_then, .ref q0_steps, .ref q0_sheet, .ref q0_next, .int k0_isParted, .ref q0_wide, .int k0_parts, .ref q0_partOf, .ref q0_partTimes, .int k0_found, .ref q0_foundAt])), (q0_then, .inl (G.2.2.1, 3024, .inr (.inl k0_then))), (q0_sheet, .inl (G.2.2.1, 3024, .inr (.inl k0_sheet))), (q0_next, .inl (G.2.2.1, 3024, .inr (.inl k0_next)))]
abbrev rmX6_difference : Room := { frames := 2, cells := 0, slots := 0, locals := 52 }
abbrev glX6_difference (p : Program) (l : Launch) (e : Env) (s : State) (m : MethodId) (args : Array Value) (below : List Frame) (meth : Method) (c : Code) (G : GX) (A : Nat → Prop) (q0 : Nat) (q0_one : Nat) (q0_other : Nat) (q0_third : Nat) (q0_waysTo : Nat) (q0_poly : Nat) (q0_then : Nat) (q0_steps : Nat) (q0_sheet : Nat) (q0_next : Nat) (q0_wide : Nat) (q0_partOf : Nat) (q0_partTimes : Nat) (q0_foundAt : Nat) (k0_parts : Int32) (k0_found : Int32) (res : Int32 × (Nat → Int64) × (Nat → Int64) × (Nat → Int64) × Int32) (H : Heap) (locs : List Loc) (pc : Nat) (ls : Array Slot) (st : List Value) : Prop := W p l e rmX6_difference s m args below meth c H locs 0 0 (MQ below (ctQ G A (wdX6_difference G q0 q0_one q0_other q0_third q0_waysTo q0_poly q0_then q0_steps q0_sheet q0_next q0_wide q0_partOf q0_partTimes q0_foundAt res.2.1 res.2.2.1 res.2.2.2.1 res.2.2.2.2 k0_parts k0_found) (some (.int res.1))) args s 0 0 A) (F0 m pc ls st)
set_option maxRecDepth 20000 in
theorem mX6_difference_0 : Cond.fieldLink RX6 35 "SchubertDeskModel" "next" "[J" ∈ wsX6_difference := by decide +kernel
set_option maxRecDepth 20000 in
theorem mX6_difference_1 : Cond.fieldLink RX6 32 "SchubertDeskModel" "sheet" "[J" ∈ wsX6_difference := by decide +kernel
set_option maxRecDepth 20000 in
theorem nX6_difference_X6 : ∀ w ∈ u_ws RX6 TX6 16, w ∈ wsX6_difference := by decide +kernel
set_option maxHeartbeats 4000000 in
set_option maxRecDepth 100000 in
theorem wX6_difference_14 {p : Program} {l : Launch} {e : Env} {s : State} {m : MethodId} {args : Array Value} {below : List Frame} {meth : Method} {c : Code} {G : GX} {A : Nat → Prop} (C : Cx p s m args meth c cX6_difference 3 (some .int) wsX6_difference RX6 G A) (q0 : Nat) (q0_one : Nat) (q0_other : Nat) (q0_third : Nat) (q0_waysTo : Nat) (q0_poly : Nat) (q0_then : Nat) (q0_steps : Nat) (q0_sheet : Nat) (q0_next : Nat) (q0_wide : Nat) (q0_partOf : Nat) (q0_partTimes : Nat) (q0_foundAt : Nat) (k0_parts : Int32) (k0_found : Int32) (p1 : Int32) (res : Int32 × (Nat → Int64) × (Nat → Int64) × (Nat → Int64) × Int32) (n : Nat) : ∀ (k0_then : Nat → Int64) (k0_sheet : Nat → Int64) (k0_next : Nat → Int64) (k0_isParted : Int32) (x2 : Int32) (H : Heap) (locs : List Loc) (ls : Array Slot), fX6_difference_L14 p1 n k0_then k0_sheet k0_next k0_isParted x2 = some res → va_P G.1 vwCl (wdX6_difference G q0 q0_one q0_other q0_third q0_waysTo q0_poly q0_then q0_steps q0_sheet q0_next q0_wide q0_partOf q0_partTimes q0_foundAt k0_then k0_sheet k0_next k0_isParted k0_parts k0_found) H → va_D A (wdX6_difference G q0 q0_one q0_other q0_third q0_waysTo q0_poly q0_then q0_steps q0_sheet q0_next q0_wide q0_partOf q0_partTimes q0_foundAt k0_then k0_sheet k0_next k0_isParted k0_parts k0_found) → va_S A s.heap H locs → lv_has ls 3 [(0, .ref q0), (1, .int p1), (2, .int x2)] → glX6_difference p l e s m args below meth c G A q0 q0_one q0_other q0_third q0_waysTo q0_poly q0_then q0_steps q0_sheet q0_next q0_wide q0_partOf q0_partTimes q0_foundAt k0_parts k0_found res H locs 14 ls [] := by
  obtain ⟨hx, hb, hml, hown, hts, hr, hlocks, hA, hG⟩ := id C
  induction n with
  | zero => intro k0_then k0_sheet k0_next k0_isParted x2 H locs ls hf hP hD hS hl; cases hf
  | succ n ih =>
    intro k0_then k0_sheet k0_next k0_isParted x2 H locs ls hf hP hD hS hl
    simp only [fX6_difference_L14] at hf
    refine lv_iload_n hx hb dX6_difference_14 rfl (lv_at hl 2 rfl) ?_
    refine lv_sipush (v := (3024 : Int32)) hx hb dX6_difference_15 (by decide) ?_
    refine lv_icmp_ge (tgt := 39) hx hb dX6_difference_18 (by decide) (fun hc => ?_) (fun hc => ?_)
    · have hf := if_t hc hf
      refine lv_aload_n hx hb dX6_difference_39 rfl (lv_at hl 0 rfl) ?_
      refine lv_aload_n hx hb dX6_difference_40 rfl (lv_at hl 0 rfl) ?_
      refine va_get (D := G.1) (ci := 6) (v := .ref q0_next) (C := RX6) (T := TX6) (N := 16) hx hb hts nX6_difference_X6 hown hG.1 hP 0 rfl rfl 8 (by decide) (hts _ mX6_difference_0) (fun _ h9 => h9) rfl dX6_difference_41 ?_
      refine lv_iload_n hx hb dX6_difference_44 rfl (lv_at hl 1 rfl) ?_
      obtain ⟨r1, hr1, hf⟩ := bd_use hf
      refine cl_V (wn := (wdX6_difference G q0 q0_one q0_other q0_third q0_waysTo q0_poly q0_then q0_steps q0_sheet q0_next q0_wide q0_partOf q0_partTimes q0_foundAt r1.1 k0_sheet r1.2 k0_isParted k0_parts k0_found)) (st1 := []) C hP hD hS (tX6_differs l G q0 q0_one q0_other q0_third q0_waysTo q0_poly q0_then q0_steps q0_sheet q0_next q0_wide q0_partOf q0_partTimes q0_foundAt q0_next k0_then k0_isParted k0_parts k0_found k0_next p1 r1 hr1) (cwV 2 hts gX6_difference_X6_differs rfl rfl rfl (by decide +kernel) ⟨Nat.le_of_ble_eq_true rfl, Nat.le_of_ble_eq_true rfl⟩) [0, 1, 3] [2] [1, 2, 0, 3] rfl rfl rfl rfl (by decide) rfl rfl (ci := 6) (q0 := 0) rfl rfl rfl rfl hl.1 rfl rfl (Nat.le_of_ble_eq_true rfl) dX6_difference_45 (fun H locs hP hD hS => ?_)
      refine lv_aload_n hx hb dX6_difference_48 rfl (lv_at hl 0 rfl) ?_
      obtain ⟨r2, hr2, hf⟩ := bd_use hf
      refine cl_V (wn := (wdX6_difference G q0 q0_one q0_other q0_third q0_waysTo q0_poly q0_then q0_steps q0_sheet q0_next q0_wide q0_partOf q0_partTimes q0_foundAt r1.1 r2.2.1 r1.2 r2.2.2 k0_parts k0_found)) (st1 := [.int r2.1]) C hP hD hS (tX6_becomes l G q0 q0_one q0_other q0_third q0_waysTo q0_poly q0_then q0_steps q0_sheet q0_next q0_wide q0_partOf q0_partTimes q0_foundAt k0_sheet r1.2 k0_isParted k0_parts k0_found r2 hr2) (cwV 0 hts gX6_difference_X6_becomes rfl rfl rfl (by decide +kernel) ⟨Nat.le_of_ble_eq_true rfl, Nat.le_of_ble_eq_true rfl⟩) [0, 2, 3] [1] [1, 0, 2, 3] rfl rfl rfl rfl (by decide) rfl rfl (ci := 6) (q0 := 0) rfl rfl rfl rfl hl.1 rfl rfl (Nat.le_of_ble_eq_true rfl) dX6_difference_49 (fun H locs hP hD hS => ?_)
      cases hf
      exact rt_i C hP hD hS dX6_difference_52
    · have hf := if_f hc hf
      refine lv_aload_n hx hb dX6_difference_21 rfl (lv_at hl 0 rfl) ?_
      refine va_get (D := G.1) (ci := 6) (v := .ref q0_next) (C := RX6) (T := TX6) (N := 16) hx hb hts nX6_difference_X6 hown hG.1 hP 0 rfl rfl 8 (by decide) (hts _ mX6_difference_0) (fun _ h9 => h9) rfl dX6_difference_22 ?_
      refine lv_iload_n hx hb dX6_difference_25 rfl (lv_at hl 2 rfl) ?_
      refine lv_aload_n hx hb dX6_difference_26 rfl (lv_at hl 0 rfl) ?_
      refine va_get (D := G.1) (ci := 6) (v := .ref q0_sheet) (C := RX6) (T := TX6) (N := 16) hx hb hts nX6_difference_X6 hown hG.1 hP 0 rfl rfl 7 (by decide) (hts _ mX6_difference_1) (fun _ h9 => h9) rfl dX6_difference_27 ?_
      refine lv_iload_n hx hb dX6_difference_30 rfl (lv_at hl 2 rfl) ?_
      obtain ⟨hin, hf⟩ := gJ_use hf
      refine va_lald hx hb hG.1 hP 2 1 rfl rfl hin dX6_difference_31 ?_
      obtain ⟨hin, hf⟩ := pJ_use hf
      refine va_last hx hb hG.1 hP hD hS 3 1 rfl rfl hin dX6_difference_32 (fun H locs hP hD hS => ?_)
      have hP : va_P G.1 vwCl (wdX6_difference G q0 q0_one q0_other q0_third q0_waysTo q0_poly q0_then q0_steps q0_sheet q0_next q0_wide q0_partOf q0_partTimes q0_foundAt k0_then k0_sheet (vp_updL k0_next (x2).toNatClampNeg (k0_sheet (x2).toNatClampNeg)) k0_isParted k0_parts k0_found) H := hP
      have hD : va_D A (wdX6_difference G q0 q0_one q0_other q0_third q0_waysTo q0_poly q0_then q0_steps q0_sheet q0_next q0_wide q0_partOf q0_partTimes q0_foundAt k0_then k0_sheet (vp_updL k0_next (x2).toNatClampNeg (k0_sheet (x2).toNatClampNeg)) k0_isParted k0_parts k0_found) := hD
      obtain ⟨y5, ey5⟩ : ∃ z : Int32, z = x2 + (1 : Int32) := ⟨_, rfl⟩
      have hf := nm_use ey5 hf
      refine lv_iinc (v := y5) (lv' := [(2, .int y5), (0, .ref q0), (1, .int p1)]) hx hb dX6_difference_33 hl (k := 2) rfl (by rw [ey5]; rfl) (by decide) rfl (fun ls hl => ?_)
      refine lv_goto (tgt := 14) hx hb dX6_difference_36 (by decide) ?_
      exact ih k0_then k0_sheet (vp_updL k0_next (x2).toNatClampNeg (k0_sheet (x2).toNatClampNeg)) k0_isParted y5 _ _ ls hf hP hD hS (lv_sub hl [1, 2, 0] rfl)
set_option maxHeartbeats 4000000 in
set_option maxRecDepth 100000 in
theorem tX6_difference (l : Launch) (G : GX) (q0 : Nat) (q0_one : Nat) (q0_other : Nat) (q0_third : Nat) (q0_waysTo : Nat) (q0_poly : Nat) (q0_then : Nat) (q0_steps : Nat) (q0_sheet : Nat) (q0_next : Nat) (q0_wide : Nat) (q0_partOf : Nat) (q0_partTimes : Nat) (q0_foundAt : Nat) (k0_then : Nat → Int64) (k0_sheet : Nat → Int64) (k0_next : Nat → Int64) (k0_isParted : Int32) (k0_parts : Int32) (k0_found : Int32) (p1 : Int32) (res : Int32 × (Nat → Int64) × (Nat → Int64) × (Nat → Int64) × Int32) (hf : fX6_difference k0_then k0_sheet k0_next k0_isParted p1 = some res) : Ct l yX6_difference wsX6_difference rmX6_difference G [.ref q0, .int p1] (wdX6_difference G q0 q0_one q0_other q0_third q0_waysTo q0_poly q0_then q0_steps q0_sheet q0_next q0_wide q0_partOf q0_partTimes q0_foundAt k0_then k0_sheet k0_next k0_isParted k0_parts k0_found) (wdX6_difference G q0 q0_one q0_other q0_third q0_waysTo q0_poly q0_then q0_steps q0_sheet q0_next q0_wide q0_partOf q0_partTimes q0_foundAt res.2.1 res.2.2.1 res.2.2.2.1 res.2.2.2.2 k0_parts k0_found) (some (.int res.1)) := by
  refine Ct.of (cc := cX6_difference) (nL := 3) (ret := (some .int)) (by decide) rfl (Nat.le_of_ble_eq_true rfl) rfl ?_
  intro p e s m below meth c A ls C hP hD hl
  obtain ⟨hx, hb, hml, hown, hts, hr, hlocks, hA, hG⟩ := id C
  have hS : va_S A s.heap s.heap [] := va_S.rf
  unfold fX6_difference at hf
  refine lv_iload_n hx hb dX6_difference_0 rfl (lv_at hl 1 rfl) ?_
  refine lv_iconst (v := (1 : Int32)) hx hb dX6_difference_1 (by decide) ?_
  refine lv_iconst (v := (3 : Int32)) hx hb dX6_difference_2 (by decide) ?_
  obtain ⟨r6, hr6, hf⟩ := bd_use hf
  refine cl_S (wn := (wdX6_difference G q0 q0_one q0_other q0_third q0_waysTo q0_poly q0_then q0_steps q0_sheet q0_next q0_wide q0_partOf q0_partTimes q0_foundAt k0_then k0_sheet k0_next k0_isParted k0_parts k0_found)) (st1 := [.int r6]) C hP hD hS (tX6_within l G p1 (1 : Int32) (3 : Int32) r6 hr6) (va_cwS 3 hts gX6_difference_X6_within rfl rfl rfl (by decide +kernel) ⟨Nat.le_of_ble_eq_true rfl, Nat.le_of_ble_eq_true rfl⟩) [] [0, 1, 2, 3] [0, 1, 2, 3] rfl rfl rfl rfl (by decide) rfl rfl rfl hl.1 rfl rfl (Nat.le_of_ble_eq_true rfl) dX6_difference_3 (fun H locs hP hD hS => ?_)
  refine lv_if_ne (tgt := 12) hx hb dX6_difference_6 (by decide) (fun hc => ?_) (fun hc => ?_)
  · have hf := if_f hc hf
    refine lv_iconst (v := (0 : Int32)) hx hb dX6_difference_12 (by decide) ?_
    refine lv_istore_n (lv' := [(2, .int (0 : Int32)), (0, .ref q0), (1, .int p1)]) hx hb dX6_difference_13 rfl hl (by decide) rfl (fun ls hl => ?_)
    exact wX6_difference_14 C q0 q0_one q0_other q0_third q0_waysTo q0_poly q0_then q0_steps q0_sheet q0_next q0_wide q0_partOf q0_partTimes q0_foundAt k0_parts k0_found p1 res fu k0_then k0_sheet k0_next k0_isParted (0 : Int32) _ _ ls hf hP hD hS (lv_sub hl [1, 2, 0] rfl)
  · have hf := if_t hc hf
    refine lv_bipush (v := (-2 : Int32)) hx hb dX6_difference_9 (by decide) ?_
    cases hf
    exact rt_i C hP hD hS dX6_difference_11
abbrev wdX6_sheet (G : GX) (q0 : Nat) (q0_one : Nat) (q0_other : Nat) (q0_third : Nat) (q0_waysTo : Nat) (q0_poly : Nat) (q0_then : Nat) (q0_steps : Nat) (q0_sheet : Nat) (q0_next : Nat) (q0_wide : Nat) (q0_partOf : Nat) (q0_partTimes : Nat) (q0_foundAt : Nat) (k0_sheet : Nat → Int64) (k0_isParted : Int32) (k0_parts : Int32) (k0_found : Int32) : va_W := [(q0, .inr (6, [.ref q0_one, .ref q0_other, .ref q0_third, .ref q0_waysTo, .ref q0_poly, .ref q0_then, .ref q0_steps, .ref q0_sheet, .ref q0_next, .int k0_isParted, .ref q0_wide, .int k0_parts, .ref q0_partOf, .ref q0_partTimes, .int k0_found, .ref q0_foundAt])), (q0_sheet, .inl (G.2.2.1, 3024, .inr (.inl k0_sheet)))]
abbrev rmX6_sheet : Room := { frames := 2, cells := 0, slots := 0, locals := 45 }
abbrev glX6_sheet (p : Program) (l : Launch) (e : Env) (s : State) (m : MethodId) (args : Array Value) (below : List Frame) (meth : Method) (c : Code) (G : GX) (A : Nat → Prop) (q0 : Nat) (q0_one : Nat) (q0_other : Nat) (q0_third : Nat) (q0_waysTo : Nat) (q0_poly : Nat) (q0_then : Nat) (q0_steps : Nat) (q0_sheet : Nat) (q0_next : Nat) (q0_wide : Nat) (q0_partOf : Nat) (q0_partTimes : Nat) (q0_foundAt : Nat) (k0_sheet : Nat → Int64) (k0_isParted : Int32) (k0_parts : Int32) (k0_found : Int32) (res : Int64) (H : Heap) (locs : List Loc) (pc : Nat) (ls : Array Slot) (st : List Value) : Prop := W p l e rmX6_sheet s m args below meth c H locs 0 0 (MQ below (ctQ G A (wdX6_sheet G q0 q0_one q0_other q0_third q0_waysTo q0_poly q0_then q0_steps q0_sheet q0_next q0_wide q0_partOf q0_partTimes q0_foundAt k0_sheet k0_isParted k0_parts k0_found) (some (.long res))) args s 0 0 A) (F0 m pc ls st)
set_option maxRecDepth 20000 in
theorem mX6_sheet_0 : Cond.constantLong RX6 134 (-9223372036854775808) ∈ wsX6_sheet := by decide +kernel
set_option maxRecDepth 20000 in
theorem mX6_sheet_1 : Cond.fieldLink RX6 32 "SchubertDeskModel" "sheet" "[J" ∈ wsX6_sheet := by decide +kernel
set_option maxRecDepth 20000 in
theorem nX6_sheet_X6 : ∀ w ∈ u_ws RX6 TX6 16, w ∈ wsX6_sheet := by decide +kernel
set_option maxHeartbeats 4000000 in
set_option maxRecDepth 100000 in
theorem tX6_sheet (l : Launch) (G : GX) (q0 : Nat) (q0_one : Nat) (q0_other : Nat) (q0_third : Nat) (q0_waysTo : Nat) (q0_poly : Nat) (q0_then : Nat) (q0_steps : Nat) (q0_sheet : Nat) (q0_next : Nat) (q0_wide : Nat) (q0_partOf : Nat) (q0_partTimes : Nat) (q0_foundAt : Nat) (k0_sheet : Nat → Int64) (k0_isParted : Int32) (k0_parts : Int32) (k0_found : Int32) (p1 : Int32) (p2 : Int32) (p3 : Int32) (p4 : Int32) (res : Int64) (hf : fX6_sheet k0_sheet p1 p2 p3 p4 = some res) : Ct l yX6_sheet wsX6_sheet rmX6_sheet G [.ref q0, .int p1, .int p2, .int p3, .int p4] (wdX6_sheet G q0 q0_one q0_other q0_third q0_waysTo q0_poly q0_then q0_steps q0_sheet q0_next q0_wide q0_partOf q0_partTimes q0_foundAt k0_sheet k0_isParted k0_parts k0_found) (wdX6_sheet G q0 q0_one q0_other q0_third q0_waysTo q0_poly q0_then q0_steps q0_sheet q0_next q0_wide q0_partOf q0_partTimes q0_foundAt k0_sheet k0_isParted k0_parts k0_found) (some (.long res)) := by
  refine Ct.of (cc := cX6_sheet) (nL := 5) (ret := (some .long)) (by decide) rfl (Nat.le_of_ble_eq_true rfl) rfl ?_
  intro p e s m below meth c A ls C hP hD hl
  obtain ⟨hx, hb, hml, hown, hts, hr, hlocks, hA, hG⟩ := id C
  have hS : va_S A s.heap s.heap [] := va_S.rf
  unfold fX6_sheet at hf
  refine lv_iload_n hx hb dX6_sheet_0 rfl (lv_at hl 1 rfl) ?_
  refine lv_if_lt (tgt := 17) hx hb dX6_sheet_1 (by decide) (fun hc => ?_) (fun hc => ?_)
  · have hf := if_t hc hf
    refine lv_ldc2 (v := (-9223372036854775808 : Int64)) hx hb hown (hts _ mX6_sheet_0) dX6_sheet_17 ?_
    cases hf
    exact rt_l C hP hD hS dX6_sheet_20
  · have hf := if_f hc hf
    refine lv_iload_n hx hb dX6_sheet_4 rfl (lv_at hl 2 rfl) ?_
    refine lv_if_lt (tgt := 17) hx hb dX6_sheet_5 (by decide) (fun hc => ?_) (fun hc => ?_)
    · have hf := if_t hc hf
      refine lv_ldc2 (v := (-9223372036854775808 : Int64)) hx hb hown (hts _ mX6_sheet_0) dX6_sheet_17 ?_
      cases hf
      exact rt_l C hP hD hS dX6_sheet_20
    · have hf := if_f hc hf
      refine lv_iload_n hx hb dX6_sheet_8 rfl (lv_at hl 3 rfl) ?_
      refine lv_if_lt (tgt := 17) hx hb dX6_sheet_9 (by decide) (fun hc => ?_) (fun hc => ?_)
      · have hf := if_t hc hf
        refine lv_ldc2 (v := (-9223372036854775808 : Int64)) hx hb hown (hts _ mX6_sheet_0) dX6_sheet_17 ?_
        cases hf
        exact rt_l C hP hD hS dX6_sheet_20
      · have hf := if_f hc hf
        refine lv_iload hx hb dX6_sheet_12 (lv_at hl 4 rfl) ?_
        refine lv_if_ge (tgt := 21) hx hb dX6_sheet_14 (by decide) (fun hc => ?_) (fun hc => ?_)
        · have hf := if_t hc hf
          refine lv_iload_n hx hb dX6_sheet_21 rfl (lv_at hl 1 rfl) ?_
          refine lv_iload_n hx hb dX6_sheet_22 rfl (lv_at hl 2 rfl) ?_
          refine lv_iload_n hx hb dX6_sheet_23 rfl (lv_at hl 3 rfl) ?_
          refine lv_iload hx hb dX6_sheet_24 (lv_at hl 4 rfl) ?_
          obtain ⟨r1, hr1, hf⟩ := bd_use hf
          refine cl_S (wn := (wdX6_sheet G q0 q0_one q0_other q0_third q0_waysTo q0_poly q0_then q0_steps q0_sheet q0_next q0_wide q0_partOf q0_partTimes q0_foundAt k0_sheet k0_isParted k0_parts k0_found)) (st1 := [.int r1]) C hP hD hS (tX6_isCell l G p1 p2 p3 p4 r1 hr1) (va_cwS 4 hts gX6_sheet_X6_isCell rfl rfl rfl (by decide +kernel) ⟨Nat.le_of_ble_eq_true rfl, Nat.le_of_ble_eq_true rfl⟩) [] [0, 1] [0, 1] rfl rfl rfl rfl (by decide) rfl rfl rfl hl.1 rfl rfl (Nat.le_of_ble_eq_true rfl) dX6_sheet_26 (fun H locs hP hD hS => ?_)
          refine lv_if_eq (tgt := 48) hx hb dX6_sheet_29 (by decide) (fun hc => ?_) (fun hc => ?_)
          · have hf := if_t hc hf
            refine lv_lconst (v := (0 : Int64)) hx hb dX6_sheet_48 (by decide) ?_
            cases hf
            exact rt_l C hP hD hS dX6_sheet_49
          · have hf := if_f hc hf
            refine lv_aload_n hx hb dX6_sheet_32 rfl (lv_at hl 0 rfl) ?_
            refine va_get (D := G.1) (ci := 6) (v := .ref q0_sheet) (C := RX6) (T := TX6) (N := 16) hx hb hts nX6_sheet_X6 hown hG.1 hP 0 rfl rfl 7 (by decide) (hts _ mX6_sheet_1) (fun _ h9 => h9) rfl dX6_sheet_33 ?_
            refine lv_iload_n hx hb dX6_sheet_36 rfl (lv_at hl 1 rfl) ?_
            refine lv_iload_n hx hb dX6_sheet_37 rfl (lv_at hl 2 rfl) ?_
            refine lv_iload_n hx hb dX6_sheet_38 rfl (lv_at hl 3 rfl) ?_
            refine lv_iload hx hb dX6_sheet_39 (lv_at hl 4 rfl) ?_
            obtain ⟨r2, hr2, hf⟩ := bd_use hf
            refine cl_S (wn := (wdX6_sheet G q0 q0_one q0_other q0_third q0_waysTo q0_poly q0_then q0_steps q0_sheet q0_next q0_wide q0_partOf q0_partTimes q0_foundAt k0_sheet k0_isParted k0_parts k0_found)) (st1 := [.int r2, .ref q0_sheet]) C hP hD hS (tX6_cellOf l G p1 p2 p3 p4 r2 hr2) (va_cwS 4 hts gX6_sheet_X6_cellOf rfl rfl rfl (by decide +kernel) ⟨Nat.le_of_ble_eq_true rfl, Nat.le_of_ble_eq_true rfl⟩) [] [0, 1] [0, 1] rfl rfl rfl rfl (by decide) rfl rfl rfl hl.1 rfl rfl (Nat.le_of_ble_eq_true rfl) dX6_sheet_41 (fun H locs hP hD hS => ?_)
            obtain ⟨hin, hf⟩ := gJ_use hf
            refine va_lald hx hb hG.1 hP 1 1 rfl rfl hin dX6_sheet_44 ?_
            refine lv_goto (tgt := 49) hx hb dX6_sheet_45 (by decide) ?_
            cases hf
            exact rt_l C hP hD hS dX6_sheet_49
        · have hf := if_f hc hf
          refine lv_ldc2 (v := (-9223372036854775808 : Int64)) hx hb hown (hts _ mX6_sheet_0) dX6_sheet_17 ?_
          cases hf
          exact rt_l C hP hD hS dX6_sheet_20
abbrev wdX6_adds (G : GX) (q0 : Nat) (q0_one : Nat) (q0_other : Nat) (q0_third : Nat) (q0_waysTo : Nat) (q0_poly : Nat) (q0_then : Nat) (q0_steps : Nat) (q0_sheet : Nat) (q0_next : Nat) (q0_wide : Nat) (q0_partOf : Nat) (q0_partTimes : Nat) (q0_foundAt : Nat) (k0_isParted : Int32) (k0_parts : Int32) (k0_partOf : Nat → Int32) (k0_partTimes : Nat → Int64) (k0_found : Int32) : va_W := [(q0, .inr (6, [.ref q0_one, .ref q0_other, .ref q0_third, .ref q0_waysTo, .ref q0_poly, .ref q0_then, .ref q0_steps, .ref q0_sheet, .ref q0_next, .int k0_isParted, .ref q0_wide, .int k0_parts, .ref q0_partOf, .ref q0_partTimes, .int k0_found, .ref q0_foundAt])), (q0_partOf, .inl (G.2.1, 3024, .inl k0_partOf)), (q0_partTimes, .inl (G.2.2.1, 3024, .inr (.inl k0_partTimes)))]
abbrev rmX6_adds : Room := { frames := 0, cells := 0, slots := 0, locals := 0 }
abbrev glX6_adds (p : Program) (l : Launch) (e : Env) (s : State) (m : MethodId) (args : Array Value) (below : List Frame) (meth : Method) (c : Code) (G : GX) (A : Nat → Prop) (q0 : Nat) (q0_one : Nat) (q0_other : Nat) (q0_third : Nat) (q0_waysTo : Nat) (q0_poly : Nat) (q0_then : Nat) (q0_steps : Nat) (q0_sheet : Nat) (q0_next : Nat) (q0_wide : Nat) (q0_partOf : Nat) (q0_partTimes : Nat) (q0_foundAt : Nat) (k0_isParted : Int32) (k0_found : Int32) (res : Int32 × (Nat → Int32) × (Nat → Int64)) (H : Heap) (locs : List Loc) (pc : Nat) (ls : Array Slot) (st : List Value) : Prop := W p l e rmX6_adds s m args below meth c H locs 0 0 (MQ below (ctQ G A (wdX6_adds G q0 q0_one q0_other q0_third q0_waysTo q0_poly q0_then q0_steps q0_sheet q0_next q0_wide q0_partOf q0_partTimes q0_foundAt k0_isParted res.1 res.2.1 res.2.2 k0_found) none) args s 0 0 A) (F0 m pc ls st)
set_option maxRecDepth 20000 in
theorem mX6_adds_0 : Cond.fieldLink RX6 42 "SchubertDeskModel" "partOf" "[I" ∈ wsX6_adds := by decide +kernel
set_option maxRecDepth 20000 in
theorem mX6_adds_1 : Cond.fieldLink RX6 45 "SchubertDeskModel" "partTimes" "[J" ∈ wsX6_adds := by decide +kernel
set_option maxRecDepth 20000 in
theorem mX6_adds_2 : Cond.fieldLink RX6 162 "SchubertDeskModel" "parts" "I" ∈ wsX6_adds := by decide +kernel
set_option maxRecDepth 20000 in
theorem nX6_adds_X6 : ∀ w ∈ u_ws RX6 TX6 16, w ∈ wsX6_adds := by decide +kernel
set_option maxHeartbeats 4000000 in
set_option maxRecDepth 100000 in
theorem wX6_adds_62 {p : Program} {l : Launch} {e : Env} {s : State} {m : MethodId} {args : Array Value} {below : List Frame} {meth : Method} {c : Code} {G : GX} {A : Nat → Prop} (C : Cx p s m args meth c cX6_adds 5 none wsX6_adds RX6 G A) (q0 : Nat) (q0_one : Nat) (q0_other : Nat) (q0_third : Nat) (q0_waysTo : Nat) (q0_poly : Nat) (q0_then : Nat) (q0_steps : Nat) (q0_sheet : Nat) (q0_next : Nat) (q0_wide : Nat) (q0_partOf : Nat) (q0_partTimes : Nat) (q0_foundAt : Nat) (k0_isParted : Int32) (k0_found : Int32) (p1 : Int32) (p2 : Int64) (res : Int32 × (Nat → Int32) × (Nat → Int64)) : ∀ (k0_parts : Int32) (k0_partOf : Nat → Int32) (k0_partTimes : Nat → Int64) (x4 : Int32) (H : Heap) (locs : List Loc) (ls : Array Slot), fX6_adds_b62 p1 p2 k0_parts k0_partOf k0_partTimes x4 = some res → va_P G.1 vwCl (wdX6_adds G q0 q0_one q0_other q0_third q0_waysTo q0_poly q0_then q0_steps q0_sheet q0_next q0_wide q0_partOf q0_partTimes q0_foundAt k0_isParted k0_parts k0_partOf k0_partTimes k0_found) H → va_D A (wdX6_adds G q0 q0_one q0_other q0_third q0_waysTo q0_poly q0_then q0_steps q0_sheet q0_next q0_wide q0_partOf q0_partTimes q0_foundAt k0_isParted k0_parts k0_partOf k0_partTimes k0_found) → va_S A s.heap H locs → lv_has ls 5 [(0, .ref q0), (1, .int p1), (2, .long p2), (4, .int x4)] → glX6_adds p l e s m args below meth c G A q0 q0_one q0_other q0_third q0_waysTo q0_poly q0_then q0_steps q0_sheet q0_next q0_wide q0_partOf q0_partTimes q0_foundAt k0_isParted k0_found res H locs 62 ls [] := by
  obtain ⟨hx, hb, hml, hown, hts, hr, hlocks, hA, hG⟩ := id C
  intro k0_parts k0_partOf k0_partTimes x4 H locs ls hf hP hD hS hl
  unfold fX6_adds_b62 at hf
  refine lv_aload_n hx hb dX6_adds_62 rfl (lv_at hl 0 rfl) ?_
  refine va_get (D := G.1) (ci := 6) (v := .ref q0_partOf) (C := RX6) (T := TX6) (N := 16) hx hb hts nX6_adds_X6 hown hG.1 hP 0 rfl rfl 12 (by decide) (hts _ mX6_adds_0) (fun _ h9 => h9) rfl dX6_adds_63 ?_
  refine lv_iload hx hb dX6_adds_66 (lv_at hl 3 rfl) ?_
  refine lv_iload_n hx hb dX6_adds_68 rfl (lv_at hl 1 rfl) ?_
  obtain ⟨hin, hf⟩ := pI_use hf
  refine va_iast hx hb hG.1 hP hD hS 1 0 rfl rfl hin dX6_adds_69 (fun H locs hP hD hS => ?_)
  have hP : va_P G.1 vwCl (wdX6_adds G q0 q0_one q0_other q0_third q0_waysTo q0_poly q0_then q0_steps q0_sheet q0_next q0_wide q0_partOf q0_partTimes q0_foundAt k0_isParted k0_parts (upd k0_partOf (x4).toNatClampNeg p1) k0_partTimes k0_found) H := hP
  have hD : va_D A (wdX6_adds G q0 q0_one q0_other q0_third q0_waysTo q0_poly q0_then q0_steps q0_sheet q0_next q0_wide q0_partOf q0_partTimes q0_foundAt k0_isParted k0_parts (upd k0_partOf (x4).toNatClampNeg p1) k0_partTimes k0_found) := hD
  refine lv_aload_n hx hb dX6_adds_70 rfl (lv_at hl 0 rfl) ?_
  refine va_get (D := G.1) (ci := 6) (v := .ref q0_partTimes) (C := RX6) (T := TX6) (N := 16) hx hb hts nX6_adds_X6 hown hG.1 hP 0 rfl rfl 13 (by decide) (hts _ mX6_adds_1) (fun _ h9 => h9) rfl dX6_adds_71 ?_
  refine lv_iload hx hb dX6_adds_74 (lv_at hl 3 rfl) ?_
  refine lv_lload_n hx hb dX6_adds_76 rfl (lv_at hl 2 rfl) ?_
  obtain ⟨hin, hf⟩ := pJ_use hf
  refine va_last hx hb hG.1 hP hD hS 2 1 rfl rfl hin dX6_adds_77 (fun H locs hP hD hS => ?_)
  have hP : va_P G.1 vwCl (wdX6_adds G q0 q0_one q0_other q0_third q0_waysTo q0_poly q0_then q0_steps q0_sheet q0_next q0_wide q0_partOf q0_partTimes q0_foundAt k0_isParted k0_parts (upd k0_partOf (x4).toNatClampNeg p1) (vp_updL k0_partTimes (x4).toNatClampNeg p2) k0_found) H := hP
  have hD : va_D A (wdX6_adds G q0 q0_one q0_other q0_third q0_waysTo q0_poly q0_then q0_steps q0_sheet q0_next q0_wide q0_partOf q0_partTimes q0_foundAt k0_isParted k0_parts (upd k0_partOf (x4).toNatClampNeg p1) (vp_updL k0_partTimes (x4).toNatClampNeg p2) k0_found) := hD
  refine lv_aload_n hx hb dX6_adds_78 rfl (lv_at hl 0 rfl) ?_
  refine lv_dup hx hb dX6_adds_79 rfl ?_
  refine va_get (D := G.1) (ci := 6) (v := .int k0_parts) (C := RX6) (T := TX6) (N := 16) hx hb hts nX6_adds_X6 hown hG.1 hP 0 rfl rfl 11 (by decide) (hts _ mX6_adds_2) (fun _ h9 => h9) rfl dX6_adds_80 ?_
  refine lv_iconst (v := (1 : Int32)) hx hb dX6_adds_83 (by decide) ?_
  refine lv_iadd hx hb dX6_adds_84 ?_
  refine va_put (D := G.1) (ci := 6) (v := .int (k0_parts + (1 : Int32))) (ty := .int) (C := RX6) (T := TX6) (N := 16) hx hb hts nX6_adds_X6 tyX6 tyX6_ok nmX6 hown hG.1 hP hD hS 0 rfl rfl 11 (by decide) (hts _ mX6_adds_2) (fun _ h9 => h9) rfl (by decide +kernel) rfl rfl (Nat.le_of_ble_eq_true rfl) dX6_adds_85 (fun H locs hP hD hS => ?_)
  have hP : va_P G.1 vwCl (wdX6_adds G q0 q0_one q0_other q0_third q0_waysTo q0_poly q0_then q0_steps q0_sheet q0_next q0_wide q0_partOf q0_partTimes q0_foundAt k0_isParted (k0_parts + (1 : Int32)) (upd k0_partOf (x4).toNatClampNeg p1) (vp_updL k0_partTimes (x4).toNatClampNeg p2) k0_found) H := hP
  have hD : va_D A (wdX6_adds G q0 q0_one q0_other q0_third q0_waysTo q0_poly q0_then q0_steps q0_sheet q0_next q0_wide q0_partOf q0_partTimes q0_foundAt k0_isParted (k0_parts + (1 : Int32)) (upd k0_partOf (x4).toNatClampNeg p1) (vp_updL k0_partTimes (x4).toNatClampNeg p2) k0_found) := hD
  cases hf
  exact rt_v C hP hD hS dX6_adds_88
set_option maxHeartbeats 4000000 in
set_option maxRecDepth 100000 in
theorem wX6_adds_6 {p : Program} {l : Launch} {e : Env} {s : State} {m : MethodId} {args : Array Value} {below : List Frame} {meth : Method} {c : Code} {G : GX} {A : Nat → Prop} (C : Cx p s m args meth c cX6_adds 5 none wsX6_adds RX6 G A) (q0 : Nat) (q0_one : Nat) (q0_other : Nat) (q0_third : Nat) (q0_waysTo : Nat) (q0_poly : Nat) (q0_then : Nat) (q0_steps : Nat) (q0_sheet : Nat) (q0_next : Nat) (q0_wide : Nat) (q0_partOf : Nat) (q0_partTimes : Nat) (q0_foundAt : Nat) (k0_isParted : Int32) (k0_found : Int32) (p1 : Int32) (p2 : Int64) (res : Int32 × (Nat → Int32) × (Nat → Int64)) (n : Nat) : ∀ (k0_parts : Int32) (k0_partOf : Nat → Int32) (k0_partTimes : Nat → Int64) (x4 : Int32) (H : Heap) (locs : List Loc) (ls : Array Slot), fX6_adds_L6 p1 p2 n k0_parts k0_partOf k0_partTimes x4 = some res → va_P G.1 vwCl (wdX6_adds G q0 q0_one q0_other q0_third q0_waysTo q0_poly q0_then q0_steps q0_sheet q0_next q0_wide q0_partOf q0_partTimes q0_foundAt k0_isParted k0_parts k0_partOf k0_partTimes k0_found) H → va_D A (wdX6_adds G q0 q0_one q0_other q0_third q0_waysTo q0_poly q0_then q0_steps q0_sheet q0_next q0_wide q0_partOf q0_partTimes q0_foundAt k0_isParted k0_parts k0_partOf k0_partTimes k0_found) → va_S A s.heap H locs → lv_has ls 5 [(0, .ref q0), (1, .int p1), (2, .long p2), (4, .int x4)] → glX6_adds p l e s m args below meth c G A q0 q0_one q0_other q0_third q0_waysTo q0_poly q0_then q0_steps q0_sheet q0_next q0_wide q0_partOf q0_partTimes q0_foundAt k0_isParted k0_found res H locs 6 ls [] := by
  obtain ⟨hx, hb, hml, hown, hts, hr, hlocks, hA, hG⟩ := id C
  induction n with
  | zero => intro k0_parts k0_partOf k0_partTimes x4 H locs ls hf hP hD hS hl; cases hf
  | succ n ih =>
    intro k0_parts k0_partOf k0_partTimes x4 H locs ls hf hP hD hS hl
    simp only [fX6_adds_L6] at hf
    refine lv_iload hx hb dX6_adds_6 (lv_at hl 3 rfl) ?_
    refine lv_if_le (tgt := 62) hx hb dX6_adds_8 (by decide) (fun hc => ?_) (fun hc => ?_)
    · have hf := if_t hc hf
      exact wX6_adds_62 C q0 q0_one q0_other q0_third q0_waysTo q0_poly q0_then q0_steps q0_sheet q0_next q0_wide q0_partOf q0_partTimes q0_foundAt k0_isParted k0_found p1 p2 res k0_parts k0_partOf k0_partTimes x4 _ _ ls hf hP hD hS (lv_sub hl [0, 1, 2, 3] rfl)
    · have hf := if_f hc hf
      refine lv_aload_n hx hb dX6_adds_11 rfl (lv_at hl 0 rfl) ?_
      refine va_get (D := G.1) (ci := 6) (v := .ref q0_partOf) (C := RX6) (T := TX6) (N := 16) hx hb hts nX6_adds_X6 hown hG.1 hP 0 rfl rfl 12 (by decide) (hts _ mX6_adds_0) (fun _ h9 => h9) rfl dX6_adds_12 ?_
      refine lv_iload hx hb dX6_adds_15 (lv_at hl 3 rfl) ?_
      refine lv_iconst (v := (1 : Int32)) hx hb dX6_adds_17 (by decide) ?_
      refine lv_isub hx hb dX6_adds_18 ?_
      obtain ⟨hin, hf⟩ := gI_use hf
      refine va_iald hx hb hG.1 hP 1 0 rfl rfl hin dX6_adds_19 ?_
      refine lv_iload_n hx hb dX6_adds_20 rfl (lv_at hl 1 rfl) ?_
      refine lv_icmp_le (tgt := 62) hx hb dX6_adds_21 (by decide) (fun hc => ?_) (fun hc => ?_)
      · have hf := if_t hc hf
        exact wX6_adds_62 C q0 q0_one q0_other q0_third q0_waysTo q0_poly q0_then q0_steps q0_sheet q0_next q0_wide q0_partOf q0_partTimes q0_foundAt k0_isParted k0_found p1 p2 res k0_parts k0_partOf k0_partTimes x4 _ _ ls hf hP hD hS (lv_sub hl [0, 1, 2, 3] rfl)
      · have hf := if_f hc hf
        refine lv_aload_n hx hb dX6_adds_24 rfl (lv_at hl 0 rfl) ?_
        refine va_get (D := G.1) (ci := 6) (v := .ref q0_partOf) (C := RX6) (T := TX6) (N := 16) hx hb hts nX6_adds_X6 hown hG.1 hP 0 rfl rfl 12 (by decide) (hts _ mX6_adds_0) (fun _ h9 => h9) rfl dX6_adds_25 ?_
        refine lv_iload hx hb dX6_adds_28 (lv_at hl 3 rfl) ?_
        refine lv_aload_n hx hb dX6_adds_30 rfl (lv_at hl 0 rfl) ?_
        refine va_get (D := G.1) (ci := 6) (v := .ref q0_partOf) (C := RX6) (T := TX6) (N := 16) hx hb hts nX6_adds_X6 hown hG.1 hP 0 rfl rfl 12 (by decide) (hts _ mX6_adds_0) (fun _ h9 => h9) rfl dX6_adds_31 ?_
        refine lv_iload hx hb dX6_adds_34 (lv_at hl 3 rfl) ?_
        refine lv_iconst (v := (1 : Int32)) hx hb dX6_adds_36 (by decide) ?_
        refine lv_isub hx hb dX6_adds_37 ?_
        obtain ⟨hin, hf⟩ := gI_use hf
        refine va_iald hx hb hG.1 hP 1 0 rfl rfl hin dX6_adds_38 ?_
        obtain ⟨hin, hf⟩ := pI_use hf
        refine va_iast hx hb hG.1 hP hD hS 1 0 rfl rfl hin dX6_adds_39 (fun H locs hP hD hS => ?_)
        have hP : va_P G.1 vwCl (wdX6_adds G q0 q0_one q0_other q0_third q0_waysTo q0_poly q0_then q0_steps q0_sheet q0_next q0_wide q0_partOf q0_partTimes q0_foundAt k0_isParted k0_parts (upd k0_partOf (x4).toNatClampNeg (k0_partOf ((x4 - (1 : Int32))).toNatClampNeg)) k0_partTimes k0_found) H := hP
        have hD : va_D A (wdX6_adds G q0 q0_one q0_other q0_third q0_waysTo q0_poly q0_then q0_steps q0_sheet q0_next q0_wide q0_partOf q0_partTimes q0_foundAt k0_isParted k0_parts (upd k0_partOf (x4).toNatClampNeg (k0_partOf ((x4 - (1 : Int32))).toNatClampNeg)) k0_partTimes k0_found) := hD
        refine lv_aload_n hx hb dX6_adds_40 rfl (lv_at hl 0 rfl) ?_
        refine va_get (D := G.1) (ci := 6) (v := .ref q0_partTimes) (C := RX6) (T := TX6) (N := 16) hx hb hts nX6_adds_X6 hown hG.1 hP 0 rfl rfl 13 (by decide) (hts _ mX6_adds_1) (fun _ h9 => h9) rfl dX6_adds_41 ?_
        refine lv_iload hx hb dX6_adds_44 (lv_at hl 3 rfl) ?_
        refine lv_aload_n hx hb dX6_adds_46 rfl (lv_at hl 0 rfl) ?_
        refine va_get (D := G.1) (ci := 6) (v := .ref q0_partTimes) (C := RX6) (T := TX6) (N := 16) hx hb hts nX6_adds_X6 hown hG.1 hP 0 rfl rfl 13 (by decide) (hts _ mX6_adds_1) (fun _ h9 => h9) rfl dX6_adds_47 ?_
        refine lv_iload hx hb dX6_adds_50 (lv_at hl 3 rfl) ?_
        refine lv_iconst (v := (1 : Int32)) hx hb dX6_adds_52 (by decide) ?_
        refine lv_isub hx hb dX6_adds_53 ?_
        obtain ⟨hin, hf⟩ := gJ_use hf
        refine va_lald hx hb hG.1 hP 2 1 rfl rfl hin dX6_adds_54 ?_
        obtain ⟨hin, hf⟩ := pJ_use hf
        refine va_last hx hb hG.1 hP hD hS 2 1 rfl rfl hin dX6_adds_55 (fun H locs hP hD hS => ?_)
        have hP : va_P G.1 vwCl (wdX6_adds G q0 q0_one q0_other q0_third q0_waysTo q0_poly q0_then q0_steps q0_sheet q0_next q0_wide q0_partOf q0_partTimes q0_foundAt k0_isParted k0_parts (upd k0_partOf (x4).toNatClampNeg (k0_partOf ((x4 - (1 : Int32))).toNatClampNeg)) (vp_updL k0_partTimes (x4).toNatClampNeg (k0_partTimes ((x4 - (1 : Int32))).toNatClampNeg)) k0_found) H := hP
        have hD : va_D A (wdX6_adds G q0 q0_one q0_other q0_third q0_waysTo q0_poly q0_then q0_steps q0_sheet q0_next q0_wide q0_partOf q0_partTimes q0_foundAt k0_isParted k0_parts (upd k0_partOf (x4).toNatClampNeg (k0_partOf ((x4 - (1 : Int32))).toNatClampNeg)) (vp_updL k0_partTimes (x4).toNatClampNeg (k0_partTimes ((x4 - (1 : Int32))).toNatClampNeg)) k0_found) := hD
        obtain ⟨y8, ey8⟩ : ∃ z : Int32, z = x4 + (-1 : Int32) := ⟨_, rfl⟩
        have hf := nm_use ey8 hf
        refine lv_iinc (v := y8) (lv' := [(4, .int y8), (0, .ref q0), (1, .int p1), (2, .long p2)]) hx hb dX6_adds_56 hl (k := 3) rfl (by rw [ey8]; rfl) (by decide) rfl (fun ls hl => ?_)
        refine lv_goto (tgt := 6) hx hb dX6_adds_59 (by decide) ?_
        exact ih k0_parts (upd k0_partOf (x4).toNatClampNeg (k0_partOf ((x4 - (1 : Int32))).toNatClampNeg)) (vp_updL k0_partTimes (x4).toNatClampNeg (k0_partTimes ((x4 - (1 : Int32))).toNatClampNeg)) y8 _ _ ls hf hP hD hS (lv_sub hl [1, 2, 3, 0] rfl)
set_option maxHeartbeats 4000000 in
set_option maxRecDepth 100000 in
theorem tX6_adds (l : Launch) (G : GX) (q0 : Nat) (q0_one : Nat) (q0_other : Nat) (q0_third : Nat) (q0_waysTo : Nat) (q0_poly : Nat) (q0_then : Nat) (q0_steps : Nat) (q0_sheet : Nat) (q0_next : Nat) (q0_wide : Nat) (q0_partOf : Nat) (q0_partTimes : Nat) (q0_foundAt : Nat) (k0_isParted : Int32) (k0_parts : Int32) (k0_partOf : Nat → Int32) (k0_partTimes : Nat → Int64) (k0_found : Int32) (p1 : Int32) (p2 : Int64) (res : Int32 × (Nat → Int32) × (Nat → Int64)) (hf : fX6_adds k0_parts k0_partOf k0_partTimes p1 p2 = some res) : Ct l yX6_adds wsX6_adds rmX6_adds G [.ref q0, .int p1, .long p2] (wdX6_adds G q0 q0_one q0_other q0_third q0_waysTo q0_poly q0_then q0_steps q0_sheet q0_next q0_wide q0_partOf q0_partTimes q0_foundAt k0_isParted k0_parts k0_partOf k0_partTimes k0_found) (wdX6_adds G q0 q0_one q0_other q0_third q0_waysTo q0_poly q0_then q0_steps q0_sheet q0_next q0_wide q0_partOf q0_partTimes q0_foundAt k0_isParted res.1 res.2.1 res.2.2 k0_found) none := by
  refine Ct.of (cc := cX6_adds) (nL := 5) (ret := none) (by decide) rfl (Nat.le_of_ble_eq_true rfl) rfl ?_
  intro p e s m below meth c A ls C hP hD hl
  obtain ⟨hx, hb, hml, hown, hts, hr, hlocks, hA, hG⟩ := id C
  have hS : va_S A s.heap s.heap [] := va_S.rf
  unfold fX6_adds at hf
  refine lv_aload_n hx hb dX6_adds_0 rfl (lv_at hl 0 rfl) ?_
  refine va_get (D := G.1) (ci := 6) (v := .int k0_parts) (C := RX6) (T := TX6) (N := 16) hx hb hts nX6_adds_X6 hown hG.1 hP 0 rfl rfl 11 (by decide) (hts _ mX6_adds_2) (fun _ h9 => h9) rfl dX6_adds_1 ?_
  refine lv_istore (lv' := [(4, .int k0_parts), (0, .ref q0), (1, .int p1), (2, .long p2)]) hx hb dX6_adds_4 hl (by decide) rfl (fun ls hl => ?_)
  exact wX6_adds_6 C q0 q0_one q0_other q0_third q0_waysTo q0_poly q0_then q0_steps q0_sheet q0_next q0_wide q0_partOf q0_partTimes q0_foundAt k0_isParted k0_found p1 p2 res fu k0_parts k0_partOf k0_partTimes k0_parts _ _ ls hf hP hD hS (lv_sub hl [1, 2, 3, 0] rfl)
abbrev wdX6_findParts (G : GX) (q0 : Nat) (q0_one : Nat) (q0_other : Nat) (q0_third : Nat) (q0_waysTo : Nat) (q0_poly : Nat) (q0_then : Nat) (q0_steps : Nat) (q0_sheet : Nat) (q0_next : Nat) (q0_wide : Nat) (q0_partOf : Nat) (q0_partTimes : Nat) (q0_foundAt : Nat) (k0_other : Nat → Int32) (k0_poly : Nat → Int64) (k0_then : Nat → Int64) (k0_steps : Nat → Int32) (k0_sheet : Nat → Int64) (k0_next : Nat → Int64) (k0_isParted : Int32) (k0_parts : Int32) (k0_partOf : Nat → Int32) (k0_partTimes : Nat → Int64) (k0_found : Int32) : va_W := [(q0, .inr (6, [.ref q0_one, .ref q0_other, .ref q0_third, .ref q0_waysTo, .ref q0_poly, .ref q0_then, .ref q0_steps, .ref q0_sheet, .ref q0_next, .int k0_isParted, .ref q0_wide, .int k0_parts, .ref q0_partOf, .ref q0_partTimes, .int k0_found, .ref q0_foundAt])), (q0_other, .inl (G.2.1, 10, .inl k0_other)), (q0_poly, .inl (G.2.2.1, 3024, .inr (.inl k0_poly))), (q0_then, .inl (G.2.2.1, 3024, .inr (.inl k0_then))), (q0_steps, .inl (G.2.1, 64, .inl k0_steps)), (q0_sheet, .inl (G.2.2.1, 3024, .inr (.inl k0_sheet))), (q0_next, .inl (G.2.2.1, 3024, .inr (.inl k0_next))), (q0_partOf, .inl (G.2.1, 3024, .inl k0_partOf)), (q0_partTimes, .inl (G.2.2.1, 3024, .inr (.inl k0_partTimes)))]
abbrev rmX6_findParts : Room := { frames := 3, cells := 0, slots := 0, locals := 76 }
abbrev glX6_findParts (p : Program) (l : Launch) (e : Env) (s : State) (m : MethodId) (args : Array Value) (below : List Frame) (meth : Method) (c : Code) (G : GX) (A : Nat → Prop) (q0 : Nat) (q0_one : Nat) (q0_other : Nat) (q0_third : Nat) (q0_waysTo : Nat) (q0_poly : Nat) (q0_then : Nat) (q0_steps : Nat) (q0_sheet : Nat) (q0_next : Nat) (q0_wide : Nat) (q0_partOf : Nat) (q0_partTimes : Nat) (q0_foundAt : Nat) (k0_sheet : Nat → Int64) (k0_found : Int32) (res : (Nat → Int32) × (Nat → Int64) × (Nat → Int64) × (Nat → Int32) × (Nat → Int64) × Int32 × Int32 × (Nat → Int32) × (Nat → Int64)) (H : Heap) (locs : List Loc) (pc : Nat) (ls : Array Slot) (st : List Value) : Prop := W p l e rmX6_findParts s m args below meth c H locs 0 0 (MQ below (ctQ G A (wdX6_findParts G q0 q0_one q0_other q0_third q0_waysTo q0_poly q0_then q0_steps q0_sheet q0_next q0_wide q0_partOf q0_partTimes q0_foundAt res.1 res.2.1 res.2.2.1 res.2.2.2.1 k0_sheet res.2.2.2.2.1 res.2.2.2.2.2.1 res.2.2.2.2.2.2.1 res.2.2.2.2.2.2.2.1 res.2.2.2.2.2.2.2.2 k0_found) none) args s 0 0 A) (F0 m pc ls st)
set_option maxRecDepth 20000 in
theorem mX6_findParts_0 : Cond.fieldLink RX6 35 "SchubertDeskModel" "next" "[J" ∈ wsX6_findParts := by decide +kernel
set_option maxRecDepth 20000 in
theorem mX6_findParts_1 : Cond.fieldLink RX6 22 "SchubertDeskModel" "poly" "[J" ∈ wsX6_findParts := by decide +kernel
set_option maxRecDepth 20000 in
theorem mX6_findParts_2 : Cond.fieldLink RX6 144 "SchubertDeskModel" "isParted" "Z" ∈ wsX6_findParts := by decide +kernel
set_option maxRecDepth 20000 in
theorem mX6_findParts_3 : Cond.fieldLink RX6 13 "SchubertDeskModel" "other" "[I" ∈ wsX6_findParts := by decide +kernel
set_option maxRecDepth 20000 in
theorem mX6_findParts_4 : Cond.fieldLink RX6 32 "SchubertDeskModel" "sheet" "[J" ∈ wsX6_findParts := by decide +kernel
set_option maxRecDepth 20000 in
theorem mX6_findParts_5 : Cond.fieldLink RX6 162 "SchubertDeskModel" "parts" "I" ∈ wsX6_findParts := by decide +kernel
set_option maxRecDepth 20000 in
theorem nX6_findParts_X6 : ∀ w ∈ u_ws RX6 TX6 16, w ∈ wsX6_findParts := by decide +kernel
set_option maxHeartbeats 4000000 in
set_option maxRecDepth 100000 in
theorem wX6_findParts_105 {p : Program} {l : Launch} {e : Env} {s : State} {m : MethodId} {args : Array Value} {below : List Frame} {meth : Method} {c : Code} {G : GX} {A : Nat → Prop} (C : Cx p s m args meth c cX6_findParts 5 none wsX6_findParts RX6 G A) (q0 : Nat) (q0_one : Nat) (q0_other : Nat) (q0_third : Nat) (q0_waysTo : Nat) (q0_poly : Nat) (q0_then : Nat) (q0_steps : Nat) (q0_sheet : Nat) (q0_next : Nat) (q0_wide : Nat) (q0_partOf : Nat) (q0_partTimes : Nat) (q0_foundAt : Nat) (k0_sheet : Nat → Int64) (k0_found : Int32) (res : (Nat → Int32) × (Nat → Int64) × (Nat → Int64) × (Nat → Int32) × (Nat → Int64) × Int32 × Int32 × (Nat → Int32) × (Nat → Int64)) (rec34 : (Nat → Int32) → (Nat → Int64) → (Nat → Int64) → (Nat → Int32) → (Nat → Int64) → Int32 → Int32 → (Nat → Int32) → (Nat → Int64) → Int32 → Option ((Nat → Int32) × (Nat → Int64) × (Nat → Int64) × (Nat → Int32) × (Nat → Int64) × Int32 × Int32 × (Nat → Int32) × (Nat → Int64))) (hr34 : ∀ (k0_other : Nat → Int32) (k0_poly : Nat → Int64) (k0_then : Nat → Int64) (k0_steps : Nat → Int32) (k0_next : Nat → Int64) (k0_isParted : Int32) (k0_parts : Int32) (k0_partOf : Nat → Int32) (k0_partTimes : Nat → Int64) (x1 : Int32) (H : Heap) (locs : List Loc) (ls : Array Slot), rec34 k0_other k0_poly k0_then k0_steps k0_next k0_isParted k0_parts k0_partOf k0_partTimes x1 = some res → va_P G.1 vwCl (wdX6_findParts G q0 q0_one q0_other q0_third q0_waysTo q0_poly q0_then q0_steps q0_sheet q0_next q0_wide q0_partOf q0_partTimes q0_foundAt k0_other k0_poly k0_then k0_steps k0_sheet k0_next k0_isParted k0_parts k0_partOf k0_partTimes k0_found) H → va_D A (wdX6_findParts G q0 q0_one q0_other q0_third q0_waysTo q0_poly q0_then q0_steps q0_sheet q0_next q0_wide q0_partOf q0_partTimes q0_foundAt k0_other k0_poly k0_then k0_steps k0_sheet k0_next k0_isParted k0_parts k0_partOf k0_partTimes k0_found) → va_S A s.heap H locs → lv_has ls 5 [(0, .ref q0), (1, .int x1)] → glX6_findParts p l e s m args below meth c G A q0 q0_one q0_other q0_third q0_waysTo q0_poly q0_then q0_steps q0_sheet q0_next q0_wide q0_partOf q0_partTimes q0_foundAt k0_sheet k0_found res H locs 34 ls []) (n : Nat) : ∀ (k0_other : Nat → Int32) (k0_poly : Nat → Int64) (k0_then : Nat → Int64) (k0_steps : Nat → Int32) (k0_next : Nat → Int64) (k0_isParted : Int32) (k0_parts : Int32) (k0_partOf : Nat → Int32) (k0_partTimes : Nat → Int64) (x1 : Int32) (x2 : Int64) (x4 : Int32) (H : Heap) (locs : List Loc) (ls : Array Slot), fX6_findParts_L105 k0_sheet rec34 n k0_other k0_poly k0_then k0_steps k0_next k0_isParted k0_parts k0_partOf k0_partTimes x1 x2 x4 = some res → va_P G.1 vwCl (wdX6_findParts G q0 q0_one q0_other q0_third q0_waysTo q0_poly q0_then q0_steps q0_sheet q0_next q0_wide q0_partOf q0_partTimes q0_foundAt k0_other k0_poly k0_then k0_steps k0_sheet k0_next k0_isParted k0_parts k0_partOf k0_partTimes k0_found) H → va_D A (wdX6_findParts G q0 q0_one q0_other q0_third q0_waysTo q0_poly q0_then q0_steps q0_sheet q0_next q0_wide q0_partOf q0_partTimes q0_foundAt k0_other k0_poly k0_then k0_steps k0_sheet k0_next k0_isParted k0_parts k0_partOf k0_partTimes k0_found) → va_S A s.heap H locs → lv_has ls 5 [(0, .ref q0), (1, .int x1), (2, .long x2), (4, .int x4)] → glX6_findParts p l e s m args below meth c G A q0 q0_one q0_other q0_third q0_waysTo q0_poly q0_then q0_steps q0_sheet q0_next q0_wide q0_partOf q0_partTimes q0_foundAt k0_sheet k0_found res H locs 105 ls [] := by
  obtain ⟨hx, hb, hml, hown, hts, hr, hlocks, hA, hG⟩ := id C
  induction n with
  | zero => intro k0_other k0_poly k0_then k0_steps k0_next k0_isParted k0_parts k0_partOf k0_partTimes x1 x2 x4 H locs ls hf hP hD hS hl; cases hf
  | succ n ih =>
    intro k0_other k0_poly k0_then k0_steps k0_next k0_isParted k0_parts k0_partOf k0_partTimes x1 x2 x4 H locs ls hf hP hD hS hl
    simp only [fX6_findParts_L105] at hf
    refine lv_iload hx hb dX6_findParts_105 (lv_at hl 3 rfl) ?_
    refine lv_sipush (v := (3024 : Int32)) hx hb dX6_findParts_107 (by decide) ?_
    refine lv_icmp_ge (tgt := 138) hx hb dX6_findParts_110 (by decide) (fun hc => ?_) (fun hc => ?_)
    · have hf := if_t hc hf
      obtain ⟨y1, ey1⟩ : ∃ z : Int32, z = x1 + (1 : Int32) := ⟨_, rfl⟩
      have hf := nm_use ey1 hf
      refine lv_iinc (v := y1) (lv' := [(1, .int y1), (0, .ref q0), (2, .long x2), (4, .int x4)]) hx hb dX6_findParts_138 hl (k := 1) rfl (by rw [ey1]; rfl) (by decide) rfl (fun ls hl => ?_)
      refine lv_goto (tgt := 34) hx hb dX6_findParts_141 (by decide) ?_
      exact hr34 k0_other k0_poly k0_then k0_steps k0_next k0_isParted k0_parts k0_partOf k0_partTimes y1 _ _ ls hf hP hD hS (lv_sub hl [1, 0] rfl)
    · have hf := if_f hc hf
      refine lv_aload_n hx hb dX6_findParts_113 rfl (lv_at hl 0 rfl) ?_
      refine va_get (D := G.1) (ci := 6) (v := .ref q0_next) (C := RX6) (T := TX6) (N := 16) hx hb hts nX6_findParts_X6 hown hG.1 hP 0 rfl rfl 8 (by decide) (hts _ mX6_findParts_0) (fun _ h9 => h9) rfl dX6_findParts_114 ?_
      refine lv_iload hx hb dX6_findParts_117 (lv_at hl 3 rfl) ?_
      refine lv_dup2_11 hx hb dX6_findParts_119 rfl rfl ?_
      obtain ⟨hin, hf⟩ := gJ_use hf
      refine va_lald hx hb hG.1 hP 6 1 rfl rfl hin dX6_findParts_120 ?_
      refine lv_lload_n hx hb dX6_findParts_121 rfl (lv_at hl 2 rfl) ?_
      refine lv_aload_n hx hb dX6_findParts_122 rfl (lv_at hl 0 rfl) ?_
      refine va_get (D := G.1) (ci := 6) (v := .ref q0_poly) (C := RX6) (T := TX6) (N := 16) hx hb hts nX6_findParts_X6 hown hG.1 hP 0 rfl rfl 4 (by decide) (hts _ mX6_findParts_1) (fun _ h9 => h9) rfl dX6_findParts_123 ?_
      refine lv_iload hx hb dX6_findParts_126 (lv_at hl 3 rfl) ?_
      obtain ⟨hin, hf⟩ := gJ_use hf
      refine va_lald hx hb hG.1 hP 2 1 rfl rfl hin dX6_findParts_128 ?_
      refine lv_lmul hx hb dX6_findParts_129 ?_
      refine lv_lsub hx hb dX6_findParts_130 ?_
      obtain ⟨hin, hf⟩ := pJ_use hf
      refine va_last hx hb hG.1 hP hD hS 6 1 rfl rfl hin dX6_findParts_131 (fun H locs hP hD hS => ?_)
      have hP : va_P G.1 vwCl (wdX6_findParts G q0 q0_one q0_other q0_third q0_waysTo q0_poly q0_then q0_steps q0_sheet q0_next q0_wide q0_partOf q0_partTimes q0_foundAt k0_other k0_poly k0_then k0_steps k0_sheet (vp_updL k0_next (x4).toNatClampNeg ((k0_next (x4).toNatClampNeg) - (x2 * (k0_poly (x4).toNatClampNeg)))) k0_isParted k0_parts k0_partOf k0_partTimes k0_found) H := hP
      have hD : va_D A (wdX6_findParts G q0 q0_one q0_other q0_third q0_waysTo q0_poly q0_then q0_steps q0_sheet q0_next q0_wide q0_partOf q0_partTimes q0_foundAt k0_other k0_poly k0_then k0_steps k0_sheet (vp_updL k0_next (x4).toNatClampNeg ((k0_next (x4).toNatClampNeg) - (x2 * (k0_poly (x4).toNatClampNeg)))) k0_isParted k0_parts k0_partOf k0_partTimes k0_found) := hD
      obtain ⟨y5, ey5⟩ : ∃ z : Int32, z = x4 + (1 : Int32) := ⟨_, rfl⟩
      have hf := nm_use ey5 hf
      refine lv_iinc (v := y5) (lv' := [(4, .int y5), (0, .ref q0), (1, .int x1), (2, .long x2)]) hx hb dX6_findParts_132 hl (k := 3) rfl (by rw [ey5]; rfl) (by decide) rfl (fun ls hl => ?_)
      refine lv_goto (tgt := 105) hx hb dX6_findParts_135 (by decide) ?_
      exact ih k0_other k0_poly k0_then k0_steps (vp_updL k0_next (x4).toNatClampNeg ((k0_next (x4).toNatClampNeg) - (x2 * (k0_poly (x4).toNatClampNeg)))) k0_isParted k0_parts k0_partOf k0_partTimes x1 x2 y5 _ _ ls hf hP hD hS (lv_sub hl [1, 2, 3, 0] rfl)
set_option maxHeartbeats 4000000 in
set_option maxRecDepth 100000 in
theorem wX6_findParts_34 {p : Program} {l : Launch} {e : Env} {s : State} {m : MethodId} {args : Array Value} {below : List Frame} {meth : Method} {c : Code} {G : GX} {A : Nat → Prop} (C : Cx p s m args meth c cX6_findParts 5 none wsX6_findParts RX6 G A) (q0 : Nat) (q0_one : Nat) (q0_other : Nat) (q0_third : Nat) (q0_waysTo : Nat) (q0_poly : Nat) (q0_then : Nat) (q0_steps : Nat) (q0_sheet : Nat) (q0_next : Nat) (q0_wide : Nat) (q0_partOf : Nat) (q0_partTimes : Nat) (q0_foundAt : Nat) (k0_sheet : Nat → Int64) (k0_found : Int32) (res : (Nat → Int32) × (Nat → Int64) × (Nat → Int64) × (Nat → Int32) × (Nat → Int64) × Int32 × Int32 × (Nat → Int32) × (Nat → Int64)) (n : Nat) : ∀ (k0_other : Nat → Int32) (k0_poly : Nat → Int64) (k0_then : Nat → Int64) (k0_steps : Nat → Int32) (k0_next : Nat → Int64) (k0_isParted : Int32) (k0_parts : Int32) (k0_partOf : Nat → Int32) (k0_partTimes : Nat → Int64) (x1 : Int32) (H : Heap) (locs : List Loc) (ls : Array Slot), fX6_findParts_L34 k0_sheet n k0_other k0_poly k0_then k0_steps k0_next k0_isParted k0_parts k0_partOf k0_partTimes x1 = some res → va_P G.1 vwCl (wdX6_findParts G q0 q0_one q0_other q0_third q0_waysTo q0_poly q0_then q0_steps q0_sheet q0_next q0_wide q0_partOf q0_partTimes q0_foundAt k0_other k0_poly k0_then k0_steps k0_sheet k0_next k0_isParted k0_parts k0_partOf k0_partTimes k0_found) H → va_D A (wdX6_findParts G q0 q0_one q0_other q0_third q0_waysTo q0_poly q0_then q0_steps q0_sheet q0_next q0_wide q0_partOf q0_partTimes q0_foundAt k0_other k0_poly k0_then k0_steps k0_sheet k0_next k0_isParted k0_parts k0_partOf k0_partTimes k0_found) → va_S A s.heap H locs → lv_has ls 5 [(0, .ref q0), (1, .int x1)] → glX6_findParts p l e s m args below meth c G A q0 q0_one q0_other q0_third q0_waysTo q0_poly q0_then q0_steps q0_sheet q0_next q0_wide q0_partOf q0_partTimes q0_foundAt k0_sheet k0_found res H locs 34 ls [] := by
  obtain ⟨hx, hb, hml, hown, hts, hr, hlocks, hA, hG⟩ := id C
  induction n with
  | zero => intro k0_other k0_poly k0_then k0_steps k0_next k0_isParted k0_parts k0_partOf k0_partTimes x1 H locs ls hf hP hD hS hl; cases hf
  | succ n ih =>
    intro k0_other k0_poly k0_then k0_steps k0_next k0_isParted k0_parts k0_partOf k0_partTimes x1 H locs ls hf hP hD hS hl
    simp only [fX6_findParts_L34] at hf
    refine lv_iload_n hx hb dX6_findParts_34 rfl (lv_at hl 1 rfl) ?_
    refine lv_sipush (v := (3024 : Int32)) hx hb dX6_findParts_35 (by decide) ?_
    refine lv_icmp_ge (tgt := 144) hx hb dX6_findParts_38 (by decide) (fun hc => ?_) (fun hc => ?_)
    · have hf := if_t hc hf
      refine lv_aload_n hx hb dX6_findParts_144 rfl (lv_at hl 0 rfl) ?_
      refine lv_iconst (v := (1 : Int32)) hx hb dX6_findParts_145 (by decide) ?_
      refine va_put (D := G.1) (ci := 6) (v := .int (1 : Int32)) (ty := .boolean) (C := RX6) (T := TX6) (N := 16) hx hb hts nX6_findParts_X6 tyX6 tyX6_ok nmX6 hown hG.1 hP hD hS 0 rfl rfl 9 (by decide) (hts _ mX6_findParts_2) (fun _ h9 => h9) rfl (by decide +kernel) rfl rfl (Nat.le_of_ble_eq_true rfl) dX6_findParts_146 (fun H locs hP hD hS => ?_)
      have hP : va_P G.1 vwCl (wdX6_findParts G q0 q0_one q0_other q0_third q0_waysTo q0_poly q0_then q0_steps q0_sheet q0_next q0_wide q0_partOf q0_partTimes q0_foundAt k0_other k0_poly k0_then k0_steps k0_sheet k0_next (1 : Int32) k0_parts k0_partOf k0_partTimes k0_found) H := hP
      have hD : va_D A (wdX6_findParts G q0 q0_one q0_other q0_third q0_waysTo q0_poly q0_then q0_steps q0_sheet q0_next q0_wide q0_partOf q0_partTimes q0_foundAt k0_other k0_poly k0_then k0_steps k0_sheet k0_next (1 : Int32) k0_parts k0_partOf k0_partTimes k0_found) := hD
      cases hf
      exact rt_v C hP hD hS dX6_findParts_149
    · have hf := if_f hc hf
      refine lv_aload_n hx hb dX6_findParts_41 rfl (lv_at hl 0 rfl) ?_
      refine va_get (D := G.1) (ci := 6) (v := .ref q0_next) (C := RX6) (T := TX6) (N := 16) hx hb hts nX6_findParts_X6 hown hG.1 hP 0 rfl rfl 8 (by decide) (hts _ mX6_findParts_0) (fun _ h9 => h9) rfl dX6_findParts_42 ?_
      refine lv_iload_n hx hb dX6_findParts_45 rfl (lv_at hl 1 rfl) ?_
      obtain ⟨hin, hf⟩ := gJ_use hf
      refine va_lald hx hb hG.1 hP 6 1 rfl rfl hin dX6_findParts_46 ?_
      refine lv_topl (fun y7 ey7 => ?_)
      have hf := nm_use ey7 hf
      refine lv_lstore_n (lv' := [(2, .long y7), (0, .ref q0), (1, .int x1)]) hx hb dX6_findParts_47 rfl hl (by decide) rfl (fun ls hl => ?_)
      refine lv_lload_n hx hb dX6_findParts_48 rfl (lv_at hl 0 rfl) ?_
      refine lv_lconst (v := (0 : Int64)) hx hb dX6_findParts_49 (by decide) ?_
      refine W.lcmp hx hb dX6_findParts_50 ?_
      refine lv_if_eq (tgt := 138) hx hb dX6_findParts_51 (by decide) (fun hc => ?_) (fun hc => ?_)
      · have hf := if_t hc hf
        obtain ⟨y8, ey8⟩ : ∃ z : Int32, z = x1 + (1 : Int32) := ⟨_, rfl⟩
        have hf := nm_use ey8 hf
        refine lv_iinc (v := y8) (lv' := [(1, .int y8), (2, .long y7), (0, .ref q0)]) hx hb dX6_findParts_138 hl (k := 2) rfl (by rw [ey8]; rfl) (by decide) rfl (fun ls hl => ?_)
        refine lv_goto (tgt := 34) hx hb dX6_findParts_141 (by decide) ?_
        exact ih k0_other k0_poly k0_then k0_steps k0_next k0_isParted k0_parts k0_partOf k0_partTimes y8 _ _ ls hf hP hD hS (lv_sub hl [2, 0] rfl)
      · have hf := if_f hc hf
        refine lv_aload_n hx hb dX6_findParts_54 rfl (lv_at hl 1 rfl) ?_
        refine lv_iload_n hx hb dX6_findParts_55 rfl (lv_at hl 2 rfl) ?_
        refine lv_iconst (v := (1 : Int32)) hx hb dX6_findParts_56 (by decide) ?_
        obtain ⟨r9, hr9, hf⟩ := bd_use hf
        refine cl_S (wn := (wdX6_findParts G q0 q0_one q0_other q0_third q0_waysTo q0_poly q0_then q0_steps q0_sheet q0_next q0_wide q0_partOf q0_partTimes q0_foundAt k0_other k0_poly k0_then k0_steps k0_sheet k0_next k0_isParted k0_parts k0_partOf k0_partTimes k0_found)) (st1 := [.int r9, .ref q0]) C hP hD hS (tX6_exponentAt l G x1 (1 : Int32) r9 hr9) (va_cwS 2 hts gX6_findParts_X6_exponentAt rfl rfl rfl (by decide +kernel) ⟨Nat.le_of_ble_eq_true rfl, Nat.le_of_ble_eq_true rfl⟩) [] [0, 1, 2, 3, 4, 5, 6, 7, 8] [0, 1, 2, 3, 4, 5, 6, 7, 8] rfl rfl rfl rfl (by decide) rfl rfl rfl hl.1 rfl rfl (Nat.le_of_ble_eq_true rfl) dX6_findParts_57 (fun H locs hP hD hS => ?_)
        refine lv_iload_n hx hb dX6_findParts_60 rfl (lv_at hl 2 rfl) ?_
        refine lv_iconst (v := (2 : Int32)) hx hb dX6_findParts_61 (by decide) ?_
        obtain ⟨r10, hr10, hf⟩ := bd_use hf
        refine cl_S (wn := (wdX6_findParts G q0 q0_one q0_other q0_third q0_waysTo q0_poly q0_then q0_steps q0_sheet q0_next q0_wide q0_partOf q0_partTimes q0_foundAt k0_other k0_poly k0_then k0_steps k0_sheet k0_next k0_isParted k0_parts k0_partOf k0_partTimes k0_found)) (st1 := [.int r10, .int r9, .ref q0]) C hP hD hS (tX6_exponentAt l G x1 (2 : Int32) r10 hr10) (va_cwS 2 hts gX6_findParts_X6_exponentAt rfl rfl rfl (by decide +kernel) ⟨Nat.le_of_ble_eq_true rfl, Nat.le_of_ble_eq_true rfl⟩) [] [0, 1, 2, 3, 4, 5, 6, 7, 8] [0, 1, 2, 3, 4, 5, 6, 7, 8] rfl rfl rfl rfl (by decide) rfl rfl rfl hl.1 rfl rfl (Nat.le_of_ble_eq_true rfl) dX6_findParts_62 (fun H locs hP hD hS => ?_)
        refine lv_iload_n hx hb dX6_findParts_65 rfl (lv_at hl 2 rfl) ?_
        refine lv_iconst (v := (3 : Int32)) hx hb dX6_findParts_66 (by decide) ?_
        obtain ⟨r11, hr11, hf⟩ := bd_use hf
        refine cl_S (wn := (wdX6_findParts G q0 q0_one q0_other q0_third q0_waysTo q0_poly q0_then q0_steps q0_sheet q0_next q0_wide q0_partOf q0_partTimes q0_foundAt k0_other k0_poly k0_then k0_steps k0_sheet k0_next k0_isParted k0_parts k0_partOf k0_partTimes k0_found)) (st1 := [.int r11, .int r10, .int r9, .ref q0]) C hP hD hS (tX6_exponentAt l G x1 (3 : Int32) r11 hr11) (va_cwS 2 hts gX6_findParts_X6_exponentAt rfl rfl rfl (by decide +kernel) ⟨Nat.le_of_ble_eq_true rfl, Nat.le_of_ble_eq_true rfl⟩) [] [0, 1, 2, 3, 4, 5, 6, 7, 8] [0, 1, 2, 3, 4, 5, 6, 7, 8] rfl rfl rfl rfl (by decide) rfl rfl rfl hl.1 rfl rfl (Nat.le_of_ble_eq_true rfl) dX6_findParts_67 (fun H locs hP hD hS => ?_)
        refine lv_iload_n hx hb dX6_findParts_70 rfl (lv_at hl 2 rfl) ?_
        refine lv_iconst (v := (4 : Int32)) hx hb dX6_findParts_71 (by decide) ?_
        obtain ⟨r12, hr12, hf⟩ := bd_use hf
        refine cl_S (wn := (wdX6_findParts G q0 q0_one q0_other q0_third q0_waysTo q0_poly q0_then q0_steps q0_sheet q0_next q0_wide q0_partOf q0_partTimes q0_foundAt k0_other k0_poly k0_then k0_steps k0_sheet k0_next k0_isParted k0_parts k0_partOf k0_partTimes k0_found)) (st1 := [.int r12, .int r11, .int r10, .int r9, .ref q0]) C hP hD hS (tX6_exponentAt l G x1 (4 : Int32) r12 hr12) (va_cwS 2 hts gX6_findParts_X6_exponentAt rfl rfl rfl (by decide +kernel) ⟨Nat.le_of_ble_eq_true rfl, Nat.le_of_ble_eq_true rfl⟩) [] [0, 1, 2, 3, 4, 5, 6, 7, 8] [0, 1, 2, 3, 4, 5, 6, 7, 8] rfl rfl rfl rfl (by decide) rfl rfl rfl hl.1 rfl rfl (Nat.le_of_ble_eq_true rfl) dX6_findParts_72 (fun H locs hP hD hS => ?_)
        refine lv_aload_n hx hb dX6_findParts_75 rfl (lv_at hl 1 rfl) ?_
        refine va_get (D := G.1) (ci := 6) (v := .ref q0_other) (C := RX6) (T := TX6) (N := 16) hx hb hts nX6_findParts_X6 hown hG.1 hP 0 rfl rfl 1 (by decide) (hts _ mX6_findParts_3) (fun _ h9 => h9) rfl dX6_findParts_76 ?_
        obtain ⟨r13, hr13, hf⟩ := bd_use hf
        refine cl_V (wn := (wdX6_findParts G q0 q0_one q0_other q0_third q0_waysTo q0_poly q0_then q0_steps q0_sheet q0_next q0_wide q0_partOf q0_partTimes q0_foundAt r13 k0_poly k0_then k0_steps k0_sheet k0_next k0_isParted k0_parts k0_partOf k0_partTimes k0_found)) (st1 := []) C hP hD hS (tX6_laysCode l G q0 q0_other k0_other r9 r10 r11 r12 r13 hr13) (cwV 5 hts gX6_findParts_X6_laysCode rfl rfl rfl (by decide +kernel) ⟨Nat.le_of_ble_eq_true rfl, Nat.le_of_ble_eq_true rfl⟩) [1] [0, 2, 3, 4, 5, 6, 7, 8] [0, 8, 1, 2, 3, 4, 5, 6, 7] rfl rfl rfl rfl (by decide) rfl rfl (ci := 6) (q0 := 0) rfl rfl rfl rfl hl.1 rfl rfl (Nat.le_of_ble_eq_true rfl) dX6_findParts_79 (fun H locs hP hD hS => ?_)
        refine lv_aload_n hx hb dX6_findParts_82 rfl (lv_at hl 1 rfl) ?_
        refine lv_aload_n hx hb dX6_findParts_83 rfl (lv_at hl 1 rfl) ?_
        refine va_get (D := G.1) (ci := 6) (v := .ref q0_other) (C := RX6) (T := TX6) (N := 16) hx hb hts nX6_findParts_X6 hown hG.1 hP 0 rfl rfl 1 (by decide) (hts _ mX6_findParts_3) (fun _ h9 => h9) rfl dX6_findParts_84 ?_
        obtain ⟨r14, hr14, hf⟩ := bd_use hf
        refine cl_S (wn := (wdX6_findParts G q0 q0_one q0_other q0_third q0_waysTo q0_poly q0_then q0_steps q0_sheet q0_next q0_wide q0_partOf q0_partTimes q0_foundAt r13 k0_poly k0_then k0_steps k0_sheet k0_next k0_isParted k0_parts k0_partOf k0_partTimes k0_found)) (st1 := [.int r14, .ref q0]) C hP hD hS (tX6_plainOf l G q0_other r13 r14 hr14) (va_cwS 1 hts gX6_findParts_X6_plainOf rfl rfl rfl (by decide +kernel) ⟨Nat.le_of_ble_eq_true rfl, Nat.le_of_ble_eq_true rfl⟩) [1] [0, 2, 3, 4, 5, 6, 7, 8] [0, 8, 1, 2, 3, 4, 5, 6, 7] rfl rfl rfl rfl (by decide) rfl rfl rfl hl.1 rfl rfl (Nat.le_of_ble_eq_true rfl) dX6_findParts_87 (fun H locs hP hD hS => ?_)
        refine lv_lload_n hx hb dX6_findParts_90 rfl (lv_at hl 0 rfl) ?_
        obtain ⟨r15, hr15, hf⟩ := bd_use hf
        refine cl_V (wn := (wdX6_findParts G q0 q0_one q0_other q0_third q0_waysTo q0_poly q0_then q0_steps q0_sheet q0_next q0_wide q0_partOf q0_partTimes q0_foundAt r13 k0_poly k0_then k0_steps k0_sheet k0_next k0_isParted r15.1 r15.2.1 r15.2.2 k0_found)) (st1 := []) C hP hD hS (tX6_adds l G q0 q0_one q0_other q0_third q0_waysTo q0_poly q0_then q0_steps q0_sheet q0_next q0_wide q0_partOf q0_partTimes q0_foundAt k0_isParted k0_parts k0_partOf k0_partTimes k0_found r14 y7 r15 hr15) (cwV 2 hts gX6_findParts_X6_adds rfl rfl rfl (by decide +kernel) ⟨Nat.le_of_ble_eq_true rfl, Nat.le_of_ble_eq_true rfl⟩) [0, 7, 8] [1, 2, 3, 4, 5, 6] [6, 0, 1, 2, 3, 4, 5, 7, 8] rfl rfl rfl rfl (by decide) rfl rfl (ci := 6) (q0 := 0) rfl rfl rfl rfl hl.1 rfl rfl (Nat.le_of_ble_eq_true rfl) dX6_findParts_91 (fun H locs hP hD hS => ?_)
        refine lv_aload_n hx hb dX6_findParts_94 rfl (lv_at hl 1 rfl) ?_
        refine lv_aload_n hx hb dX6_findParts_95 rfl (lv_at hl 1 rfl) ?_
        refine va_get (D := G.1) (ci := 6) (v := .ref q0_other) (C := RX6) (T := TX6) (N := 16) hx hb hts nX6_findParts_X6 hown hG.1 hP 0 rfl rfl 1 (by decide) (hts _ mX6_findParts_3) (fun _ h9 => h9) rfl dX6_findParts_96 ?_
        obtain ⟨r16, hr16, hf⟩ := bd_use hf
        refine cl_V (wn := (wdX6_findParts G q0 q0_one q0_other q0_third q0_waysTo q0_poly q0_then q0_steps q0_sheet q0_next q0_wide q0_partOf q0_partTimes q0_foundAt r16.2.2.2 r16.1 r16.2.1 r16.2.2.1 k0_sheet k0_next k0_isParted r15.1 r15.2.1 r15.2.2 k0_found)) (st1 := []) C hP hD hS (tX6_findS l G q0 q0_one q0_other q0_third q0_waysTo q0_poly q0_then q0_steps q0_sheet q0_next q0_wide q0_partOf q0_partTimes q0_foundAt q0_other k0_poly k0_then k0_steps k0_isParted r15.1 k0_found r13 r16 hr16) (cwV 1 hts gX6_findParts_X6_findS rfl rfl rfl (by decide +kernel) ⟨Nat.le_of_ble_eq_true rfl, Nat.le_of_ble_eq_true rfl⟩) [0, 2, 3, 4, 1] [5, 6, 7, 8] [4, 8, 5, 6, 7, 0, 1, 2, 3] rfl rfl rfl rfl (by decide) rfl rfl (ci := 6) (q0 := 0) rfl rfl rfl rfl hl.1 rfl rfl (Nat.le_of_ble_eq_true rfl) dX6_findParts_99 (fun H locs hP hD hS => ?_)
        refine lv_iload_n hx hb dX6_findParts_102 rfl (lv_at hl 2 rfl) ?_
        refine lv_istore (lv' := [(4, .int x1), (2, .long y7), (0, .ref q0), (1, .int x1)]) hx hb dX6_findParts_103 hl (by decide) rfl (fun ls hl => ?_)
        exact wX6_findParts_105 C q0 q0_one q0_other q0_third q0_waysTo q0_poly q0_then q0_steps q0_sheet q0_next q0_wide q0_partOf q0_partTimes q0_foundAt k0_sheet k0_found res (fX6_findParts_L34 k0_sheet n) ih fu r16.2.2.2 r16.1 r16.2.1 r16.2.2.1 k0_next k0_isParted r15.1 r15.2.1 r15.2.2 x1 y7 x1 _ _ ls hf hP hD hS (lv_sub hl [2, 3, 1, 0] rfl)
set_option maxHeartbeats 4000000 in
set_option maxRecDepth 100000 in
theorem wX6_findParts_7 {p : Program} {l : Launch} {e : Env} {s : State} {m : MethodId} {args : Array Value} {below : List Frame} {meth : Method} {c : Code} {G : GX} {A : Nat → Prop} (C : Cx p s m args meth c cX6_findParts 5 none wsX6_findParts RX6 G A) (q0 : Nat) (q0_one : Nat) (q0_other : Nat) (q0_third : Nat) (q0_waysTo : Nat) (q0_poly : Nat) (q0_then : Nat) (q0_steps : Nat) (q0_sheet : Nat) (q0_next : Nat) (q0_wide : Nat) (q0_partOf : Nat) (q0_partTimes : Nat) (q0_foundAt : Nat) (k0_sheet : Nat → Int64) (k0_found : Int32) (res : (Nat → Int32) × (Nat → Int64) × (Nat → Int64) × (Nat → Int32) × (Nat → Int64) × Int32 × Int32 × (Nat → Int32) × (Nat → Int64)) (n : Nat) : ∀ (k0_other : Nat → Int32) (k0_poly : Nat → Int64) (k0_then : Nat → Int64) (k0_steps : Nat → Int32) (k0_next : Nat → Int64) (k0_isParted : Int32) (k0_parts : Int32) (k0_partOf : Nat → Int32) (k0_partTimes : Nat → Int64) (x1 : Int32) (H : Heap) (locs : List Loc) (ls : Array Slot), fX6_findParts_L7 k0_sheet n k0_other k0_poly k0_then k0_steps k0_next k0_isParted k0_parts k0_partOf k0_partTimes x1 = some res → va_P G.1 vwCl (wdX6_findParts G q0 q0_one q0_other q0_third q0_waysTo q0_poly q0_then q0_steps q0_sheet q0_next q0_wide q0_partOf q0_partTimes q0_foundAt k0_other k0_poly k0_then k0_steps k0_sheet k0_next k0_isParted k0_parts k0_partOf k0_partTimes k0_found) H → va_D A (wdX6_findParts G q0 q0_one q0_other q0_third q0_waysTo q0_poly q0_then q0_steps q0_sheet q0_next q0_wide q0_partOf q0_partTimes q0_foundAt k0_other k0_poly k0_then k0_steps k0_sheet k0_next k0_isParted k0_parts k0_partOf k0_partTimes k0_found) → va_S A s.heap H locs → lv_has ls 5 [(0, .ref q0), (1, .int x1)] → glX6_findParts p l e s m args below meth c G A q0 q0_one q0_other q0_third q0_waysTo q0_poly q0_then q0_steps q0_sheet q0_next q0_wide q0_partOf q0_partTimes q0_foundAt k0_sheet k0_found res H locs 7 ls [] := by
  obtain ⟨hx, hb, hml, hown, hts, hr, hlocks, hA, hG⟩ := id C
  induction n with
  | zero => intro k0_other k0_poly k0_then k0_steps k0_next k0_isParted k0_parts k0_partOf k0_partTimes x1 H locs ls hf hP hD hS hl; cases hf
  | succ n ih =>
    intro k0_other k0_poly k0_then k0_steps k0_next k0_isParted k0_parts k0_partOf k0_partTimes x1 H locs ls hf hP hD hS hl
    simp only [fX6_findParts_L7] at hf
    refine lv_iload_n hx hb dX6_findParts_7 rfl (lv_at hl 1 rfl) ?_
    refine lv_sipush (v := (3024 : Int32)) hx hb dX6_findParts_8 (by decide) ?_
    refine lv_icmp_ge (tgt := 32) hx hb dX6_findParts_11 (by decide) (fun hc => ?_) (fun hc => ?_)
    · have hf := if_t hc hf
      refine lv_iconst (v := (0 : Int32)) hx hb dX6_findParts_32 (by decide) ?_
      refine lv_istore_n (lv' := [(1, .int (0 : Int32)), (0, .ref q0)]) hx hb dX6_findParts_33 rfl hl (by decide) rfl (fun ls hl => ?_)
      exact wX6_findParts_34 C q0 q0_one q0_other q0_third q0_waysTo q0_poly q0_then q0_steps q0_sheet q0_next q0_wide q0_partOf q0_partTimes q0_foundAt k0_sheet k0_found res fu k0_other k0_poly k0_then k0_steps k0_next k0_isParted k0_parts k0_partOf k0_partTimes (0 : Int32) _ _ ls hf hP hD hS (lv_sub hl [1, 0] rfl)
    · have hf := if_f hc hf
      refine lv_aload_n hx hb dX6_findParts_14 rfl (lv_at hl 0 rfl) ?_
      refine va_get (D := G.1) (ci := 6) (v := .ref q0_next) (C := RX6) (T := TX6) (N := 16) hx hb hts nX6_findParts_X6 hown hG.1 hP 0 rfl rfl 8 (by decide) (hts _ mX6_findParts_0) (fun _ h9 => h9) rfl dX6_findParts_15 ?_
      refine lv_iload_n hx hb dX6_findParts_18 rfl (lv_at hl 1 rfl) ?_
      refine lv_aload_n hx hb dX6_findParts_19 rfl (lv_at hl 0 rfl) ?_
      refine va_get (D := G.1) (ci := 6) (v := .ref q0_sheet) (C := RX6) (T := TX6) (N := 16) hx hb hts nX6_findParts_X6 hown hG.1 hP 0 rfl rfl 7 (by decide) (hts _ mX6_findParts_4) (fun _ h9 => h9) rfl dX6_findParts_20 ?_
      refine lv_iload_n hx hb dX6_findParts_23 rfl (lv_at hl 1 rfl) ?_
      obtain ⟨hin, hf⟩ := gJ_use hf
      refine va_lald hx hb hG.1 hP 5 1 rfl rfl hin dX6_findParts_24 ?_
      obtain ⟨hin, hf⟩ := pJ_use hf
      refine va_last hx hb hG.1 hP hD hS 6 1 rfl rfl hin dX6_findParts_25 (fun H locs hP hD hS => ?_)
      have hP : va_P G.1 vwCl (wdX6_findParts G q0 q0_one q0_other q0_third q0_waysTo q0_poly q0_then q0_steps q0_sheet q0_next q0_wide q0_partOf q0_partTimes q0_foundAt k0_other k0_poly k0_then k0_steps k0_sheet (vp_updL k0_next (x1).toNatClampNeg (k0_sheet (x1).toNatClampNeg)) k0_isParted k0_parts k0_partOf k0_partTimes k0_found) H := hP
      have hD : va_D A (wdX6_findParts G q0 q0_one q0_other q0_third q0_waysTo q0_poly q0_then q0_steps q0_sheet q0_next q0_wide q0_partOf q0_partTimes q0_foundAt k0_other k0_poly k0_then k0_steps k0_sheet (vp_updL k0_next (x1).toNatClampNeg (k0_sheet (x1).toNatClampNeg)) k0_isParted k0_parts k0_partOf k0_partTimes k0_found) := hD
      obtain ⟨y19, ey19⟩ : ∃ z : Int32, z = x1 + (1 : Int32) := ⟨_, rfl⟩
      have hf := nm_use ey19 hf
      refine lv_iinc (v := y19) (lv' := [(1, .int y19), (0, .ref q0)]) hx hb dX6_findParts_26 hl (k := 1) rfl (by rw [ey19]; rfl) (by decide) rfl (fun ls hl => ?_)
      refine lv_goto (tgt := 7) hx hb dX6_findParts_29 (by decide) ?_
      exact ih k0_other k0_poly k0_then k0_steps (vp_updL k0_next (x1).toNatClampNeg (k0_sheet (x1).toNatClampNeg)) k0_isParted k0_parts k0_partOf k0_partTimes y19 _ _ ls hf hP hD hS (lv_sub hl [1, 0] rfl)
set_option maxHeartbeats 4000000 in
set_option maxRecDepth 100000 in
theorem tX6_findParts (l : Launch) (G : GX) (q0 : Nat) (q0_one : Nat) (q0_other : Nat) (q0_third : Nat) (q0_waysTo : Nat) (q0_poly : Nat) (q0_then : Nat) (q0_steps : Nat) (q0_sheet : Nat) (q0_next : Nat) (q0_wide : Nat) (q0_partOf : Nat) (q0_partTimes : Nat) (q0_foundAt : Nat) (k0_other : Nat → Int32) (k0_poly : Nat → Int64) (k0_then : Nat → Int64) (k0_steps : Nat → Int32) (k0_sheet : Nat → Int64) (k0_next : Nat → Int64) (k0_isParted : Int32) (k0_parts : Int32) (k0_partOf : Nat → Int32) (k0_partTimes : Nat → Int64) (k0_found : Int32) (res : (Nat → Int32) × (Nat → Int64) × (Nat → Int64) × (Nat → Int32) × (Nat → Int64) × Int32 × Int32 × (Nat → Int32) × (Nat → Int64)) (hf : fX6_findParts k0_other k0_poly k0_then k0_steps k0_sheet k0_next k0_isParted k0_parts k0_partOf k0_partTimes = some res) : Ct l yX6_findParts wsX6_findParts rmX6_findParts G [.ref q0] (wdX6_findParts G q0 q0_one q0_other q0_third q0_waysTo q0_poly q0_then q0_steps q0_sheet q0_next q0_wide q0_partOf q0_partTimes q0_foundAt k0_other k0_poly k0_then k0_steps k0_sheet k0_next k0_isParted k0_parts k0_partOf k0_partTimes k0_found) (wdX6_findParts G q0 q0_one q0_other q0_third q0_waysTo q0_poly q0_then q0_steps q0_sheet q0_next q0_wide q0_partOf q0_partTimes q0_foundAt res.1 res.2.1 res.2.2.1 res.2.2.2.1 k0_sheet res.2.2.2.2.1 res.2.2.2.2.2.1 res.2.2.2.2.2.2.1 res.2.2.2.2.2.2.2.1 res.2.2.2.2.2.2.2.2 k0_found) none := by
  refine Ct.of (cc := cX6_findParts) (nL := 5) (ret := none) (by decide) rfl (Nat.le_of_ble_eq_true rfl) rfl ?_
  intro p e s m below meth c A ls C hP hD hl
  obtain ⟨hx, hb, hml, hown, hts, hr, hlocks, hA, hG⟩ := id C
  have hS : va_S A s.heap s.heap [] := va_S.rf
  unfold fX6_findParts at hf
  refine lv_aload_n hx hb dX6_findParts_0 rfl (lv_at hl 0 rfl) ?_
  refine lv_iconst (v := (0 : Int32)) hx hb dX6_findParts_1 (by decide) ?_
  refine va_put (D := G.1) (ci := 6) (v := .int (0 : Int32)) (ty := .int) (C := RX6) (T := TX6) (N := 16) hx hb hts nX6_findParts_X6 tyX6 tyX6_ok nmX6 hown hG.1 hP hD hS 0 rfl rfl 11 (by decide) (hts _ mX6_findParts_5) (fun _ h9 => h9) rfl (by decide +kernel) rfl rfl (Nat.le_of_ble_eq_true rfl) dX6_findParts_2 (fun H locs hP hD hS => ?_)
  have hP : va_P G.1 vwCl (wdX6_findParts G q0 q0_one q0_other q0_third q0_waysTo q0_poly q0_then q0_steps q0_sheet q0_next q0_wide q0_partOf q0_partTimes q0_foundAt k0_other k0_poly k0_then k0_steps k0_sheet k0_next k0_isParted (0 : Int32) k0_partOf k0_partTimes k0_found) H := hP
  have hD : va_D A (wdX6_findParts G q0 q0_one q0_other q0_third q0_waysTo q0_poly q0_then q0_steps q0_sheet q0_next q0_wide q0_partOf q0_partTimes q0_foundAt k0_other k0_poly k0_then k0_steps k0_sheet k0_next k0_isParted (0 : Int32) k0_partOf k0_partTimes k0_found) := hD
  refine lv_iconst (v := (0 : Int32)) hx hb dX6_findParts_5 (by decide) ?_
  refine lv_istore_n (lv' := [(1, .int (0 : Int32)), (0, .ref q0)]) hx hb dX6_findParts_6 rfl hl (by decide) rfl (fun ls hl => ?_)
  exact wX6_findParts_7 C q0 q0_one q0_other q0_third q0_waysTo q0_poly q0_then q0_steps q0_sheet q0_next q0_wide q0_partOf q0_partTimes q0_foundAt k0_sheet k0_found res fu k0_other k0_poly k0_then k0_steps k0_next k0_isParted (0 : Int32) k0_partOf k0_partTimes (0 : Int32) _ _ ls hf hP hD hS (lv_sub hl [1, 0] rfl)
abbrev wdX6_knowsParts (G : GX) (q0 : Nat) (q0_one : Nat) (q0_other : Nat) (q0_third : Nat) (q0_waysTo : Nat) (q0_poly : Nat) (q0_then : Nat) (q0_steps : Nat) (q0_sheet : Nat) (q0_next : Nat) (q0_wide : Nat) (q0_partOf : Nat) (q0_partTimes : Nat) (q0_foundAt : Nat) (k0_other : Nat → Int32) (k0_poly : Nat → Int64) (k0_then : Nat → Int64) (k0_steps : Nat → Int32) (k0_sheet : Nat → Int64) (k0_next : Nat → Int64) (k0_isParted : Int32) (k0_parts : Int32) (k0_partOf : Nat → Int32) (k0_partTimes : Nat → Int64) (k0_found : Int32) : va_W := [(q0, .inr (6, [.ref q0_one, .ref q0_other, .ref q0_third, .ref q0_waysTo, .ref q0_poly, .ref q0_then, .ref q0_steps, .ref q0_sheet, .ref q0_next, .int k0_isParted, .ref q0_wide, .int k0_parts, .ref q0_partOf, .ref q0_partTimes, .int k0_found, .ref q0_foundAt])), (q0_other, .inl (G.2.1, 10, .inl k0_other)), (q0_poly, .inl (G.2.2.1, 3024, .inr (.inl k0_poly))), (q0_then, .inl (G.2.2.1, 3024, .inr (.inl k0_then))), (q0_steps, .inl (G.2.1, 64, .inl k0_steps)), (q0_sheet, .inl (G.2.2.1, 3024, .inr (.inl k0_sheet))), (q0_next, .inl (G.2.2.1, 3024, .inr (.inl k0_next))), (q0_partOf, .inl (G.2.1, 3024, .inl k0_partOf)), (q0_partTimes, .inl (G.2.2.1, 3024, .inr (.inl k0_partTimes)))]
abbrev rmX6_knowsParts : Room := { frames := 4, cells := 0, slots := 0, locals := 100 }
abbrev glX6_knowsParts (p : Program) (l : Launch) (e : Env) (s : State) (m : MethodId) (args : Array Value) (below : List Frame) (meth : Method) (c : Code) (G : GX) (A : Nat → Prop) (q0 : Nat) (q0_one : Nat) (q0_other : Nat) (q0_third : Nat) (q0_waysTo : Nat) (q0_poly : Nat) (q0_then : Nat) (q0_steps : Nat) (q0_sheet : Nat) (q0_next : Nat) (q0_wide : Nat) (q0_partOf : Nat) (q0_partTimes : Nat) (q0_foundAt : Nat) (k0_sheet : Nat → Int64) (k0_found : Int32) (res : (Nat → Int32) × (Nat → Int64) × (Nat → Int64) × (Nat → Int32) × (Nat → Int64) × Int32 × Int32 × (Nat → Int32) × (Nat → Int64)) (H : Heap) (locs : List Loc) (pc : Nat) (ls : Array Slot) (st : List Value) : Prop := W p l e rmX6_knowsParts s m args below meth c H locs 0 0 (MQ below (ctQ G A (wdX6_knowsParts G q0 q0_one q0_other q0_third q0_waysTo q0_poly q0_then q0_steps q0_sheet q0_next q0_wide q0_partOf q0_partTimes q0_foundAt res.1 res.2.1 res.2.2.1 res.2.2.2.1 k0_sheet res.2.2.2.2.1 res.2.2.2.2.2.1 res.2.2.2.2.2.2.1 res.2.2.2.2.2.2.2.1 res.2.2.2.2.2.2.2.2 k0_found) none) args s 0 0 A) (F0 m pc ls st)
set_option maxRecDepth 20000 in
theorem mX6_knowsParts_0 : Cond.fieldLink RX6 144 "SchubertDeskModel" "isParted" "Z" ∈ wsX6_knowsParts := by decide +kernel
set_option maxRecDepth 20000 in
theorem nX6_knowsParts_X6 : ∀ w ∈ u_ws RX6 TX6 16, w ∈ wsX6_knowsParts := by decide +kernel
set_option maxHeartbeats 4000000 in
set_option maxRecDepth 100000 in
theorem tX6_knowsParts (l : Launch) (G : GX) (q0 : Nat) (q0_one : Nat) (q0_other : Nat) (q0_third : Nat) (q0_waysTo : Nat) (q0_poly : Nat) (q0_then : Nat) (q0_steps : Nat) (q0_sheet : Nat) (q0_next : Nat) (q0_wide : Nat) (q0_partOf : Nat) (q0_partTimes : Nat) (q0_foundAt : Nat) (k0_other : Nat → Int32) (k0_poly : Nat → Int64) (k0_then : Nat → Int64) (k0_steps : Nat → Int32) (k0_sheet : Nat → Int64) (k0_next : Nat → Int64) (k0_isParted : Int32) (k0_parts : Int32) (k0_partOf : Nat → Int32) (k0_partTimes : Nat → Int64) (k0_found : Int32) (res : (Nat → Int32) × (Nat → Int64) × (Nat → Int64) × (Nat → Int32) × (Nat → Int64) × Int32 × Int32 × (Nat → Int32) × (Nat → Int64)) (hf : fX6_knowsParts k0_other k0_poly k0_then k0_steps k0_sheet k0_next k0_isParted k0_parts k0_partOf k0_partTimes = some res) : Ct l yX6_knowsParts wsX6_knowsParts rmX6_knowsParts G [.ref q0] (wdX6_knowsParts G q0 q0_one q0_other q0_third q0_waysTo q0_poly q0_then q0_steps q0_sheet q0_next q0_wide q0_partOf q0_partTimes q0_foundAt k0_other k0_poly k0_then k0_steps k0_sheet k0_next k0_isParted k0_parts k0_partOf k0_partTimes k0_found) (wdX6_knowsParts G q0 q0_one q0_other q0_third q0_waysTo q0_poly q0_then q0_steps q0_sheet q0_next q0_wide q0_partOf q0_partTimes q0_foundAt res.1 res.2.1 res.2.2.1 res.2.2.2.1 k0_sheet res.2.2.2.2.1 res.2.2.2.2.2.1 res.2.2.2.2.2.2.1 res.2.2.2.2.2.2.2.1 res.2.2.2.2.2.2.2.2 k0_found) none := by
  refine Ct.of (cc := cX6_knowsParts) (nL := 1) (ret := none) (by decide) rfl (Nat.le_of_ble_eq_true rfl) rfl ?_
  intro p e s m below meth c A ls C hP hD hl
  obtain ⟨hx, hb, hml, hown, hts, hr, hlocks, hA, hG⟩ := id C
  have hS : va_S A s.heap s.heap [] := va_S.rf
  unfold fX6_knowsParts at hf
  refine lv_aload_n hx hb dX6_knowsParts_0 rfl (lv_at hl 0 rfl) ?_
  refine va_get (D := G.1) (ci := 6) (v := .int k0_isParted) (C := RX6) (T := TX6) (N := 16) hx hb hts nX6_knowsParts_X6 hown hG.1 hP 0 rfl rfl 9 (by decide) (hts _ mX6_knowsParts_0) (fun _ h9 => h9) rfl dX6_knowsParts_1 ?_
  refine lv_if_ne (tgt := 11) hx hb dX6_knowsParts_4 (by decide) (fun hc => ?_) (fun hc => ?_)
  · have hf := if_f hc hf
    cases hf
    exact rt_v C hP hD hS dX6_knowsParts_11
  · have hf := if_t hc hf
    refine lv_aload_n hx hb dX6_knowsParts_7 rfl (lv_at hl 0 rfl) ?_
    obtain ⟨r1, hr1, hf⟩ := bd_use hf
    refine cl_V (wn := (wdX6_knowsParts G q0 q0_one q0_other q0_third q0_waysTo q0_poly q0_then q0_steps q0_sheet q0_next q0_wide q0_partOf q0_partTimes q0_foundAt r1.1 r1.2.1 r1.2.2.1 r1.2.2.2.1 k0_sheet r1.2.2.2.2.1 r1.2.2.2.2.2.1 r1.2.2.2.2.2.2.1 r1.2.2.2.2.2.2.2.1 r1.2.2.2.2.2.2.2.2 k0_found)) (st1 := []) C hP hD hS (tX6_findParts l G q0 q0_one q0_other q0_third q0_waysTo q0_poly q0_then q0_steps q0_sheet q0_next q0_wide q0_partOf q0_partTimes q0_foundAt k0_other k0_poly k0_then k0_steps k0_sheet k0_next k0_isParted k0_parts k0_partOf k0_partTimes k0_found r1 hr1) (cwV 0 hts gX6_knowsParts_X6_findParts rfl rfl rfl (by decide +kernel) ⟨Nat.le_of_ble_eq_true rfl, Nat.le_of_ble_eq_true rfl⟩) [0, 1, 2, 3, 4, 5, 6, 7, 8] [] [0, 1, 2, 3, 4, 5, 6, 7, 8] rfl rfl rfl rfl (by decide) rfl rfl (ci := 6) (q0 := 0) rfl rfl rfl rfl hl.1 rfl rfl (Nat.le_of_ble_eq_true rfl) dX6_knowsParts_8 (fun H locs hP hD hS => ?_)
    cases hf
    exact rt_v C hP hD hS dX6_knowsParts_11
