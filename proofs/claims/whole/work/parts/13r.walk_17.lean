abbrev wdX6_part (G : GX) (q0 : Nat) (q0_one : Nat) (q0_other : Nat) (q0_third : Nat) (q0_waysTo : Nat) (q0_poly : Nat) (q0_then : Nat) (q0_steps : Nat) (q0_sheet : Nat) (q0_next : Nat) (q0_wide : Nat) (q0_partOf : Nat) (q0_partTimes : Nat) (q0_foundAt : Nat) (k0_other : Nat → Int32) (k0_poly : Nat → Int64) (k0_then : Nat → Int64) (k0_steps : Nat → Int32) (k0_sheet : Nat → Int64) (k0_next : Nat → Int64) (k0_isParted : Int32) (k0_parts : Int32) (k0_partOf : Nat → Int32) (k0_partTimes : Nat → Int64) (k0_found : Int32) : va_W := [(q0, .inr (6, [.ref q0_one, .ref q0_other, .ref q0_third, .ref q0_waysTo, .ref q0_poly, .ref q0_then, .ref q0_steps, .ref q0_sheet, .ref q0_next, .int k0_isParted, .ref q0_wide, .int k0_parts, .ref q0_partOf, .ref q0_partTimes, .int k0_found, .ref q0_foundAt])), (q0_other, .inl (G.2.1, 10, .inl k0_other)), (q0_poly, .inl (G.2.2.1, 3024, .inr (.inl k0_poly))), (q0_then, .inl (G.2.2.1, 3024, .inr (.inl k0_then))), (q0_steps, .inl (G.2.1, 64, .inl k0_steps)), (q0_sheet, .inl (G.2.2.1, 3024, .inr (.inl k0_sheet))), (q0_next, .inl (G.2.2.1, 3024, .inr (.inl k0_next))), (q0_partOf, .inl (G.2.1, 3024, .inl k0_partOf)), (q0_partTimes, .inl (G.2.2.1, 3024, .inr (.inl k0_partTimes)))]
abbrev rmX6_part : Room := { frames := 5, cells := 0, slots := 0, locals := 120 }
abbrev glX6_part (p : Program) (l : Launch) (e : Env) (s : State) (m : MethodId) (args : Array Value) (below : List Frame) (meth : Method) (c : Code) (G : GX) (A : Nat → Prop) (q0 : Nat) (q0_one : Nat) (q0_other : Nat) (q0_third : Nat) (q0_waysTo : Nat) (q0_poly : Nat) (q0_then : Nat) (q0_steps : Nat) (q0_sheet : Nat) (q0_next : Nat) (q0_wide : Nat) (q0_partOf : Nat) (q0_partTimes : Nat) (q0_foundAt : Nat) (k0_sheet : Nat → Int64) (k0_found : Int32) (res : Int32 × (Nat → Int32) × (Nat → Int64) × (Nat → Int64) × (Nat → Int32) × (Nat → Int64) × Int32 × Int32 × (Nat → Int32) × (Nat → Int64)) (H : Heap) (locs : List Loc) (pc : Nat) (ls : Array Slot) (st : List Value) : Prop := W p l e rmX6_part s m args below meth c H locs 0 0 (MQ below (ctQ G A (wdX6_part G q0 q0_one q0_other q0_third q0_waysTo q0_poly q0_then q0_steps q0_sheet q0_next q0_wide q0_partOf q0_partTimes q0_foundAt res.2.1 res.2.2.1 res.2.2.2.1 res.2.2.2.2.1 k0_sheet res.2.2.2.2.2.1 res.2.2.2.2.2.2.1 res.2.2.2.2.2.2.2.1 res.2.2.2.2.2.2.2.2.1 res.2.2.2.2.2.2.2.2.2 k0_found) (some (.int res.1))) args s 0 0 A) (F0 m pc ls st)
set_option maxRecDepth 20000 in
theorem mX6_part_0 : Cond.fieldLink RX6 162 "SchubertDeskModel" "parts" "I" ∈ wsX6_part := by decide +kernel
set_option maxRecDepth 20000 in
theorem mX6_part_1 : Cond.fieldLink RX6 42 "SchubertDeskModel" "partOf" "[I" ∈ wsX6_part := by decide +kernel
set_option maxRecDepth 20000 in
theorem nX6_part_X6 : ∀ w ∈ u_ws RX6 TX6 16, w ∈ wsX6_part := by decide +kernel
set_option maxHeartbeats 4000000 in
set_option maxRecDepth 100000 in
theorem tX6_part (l : Launch) (G : GX) (q0 : Nat) (q0_one : Nat) (q0_other : Nat) (q0_third : Nat) (q0_waysTo : Nat) (q0_poly : Nat) (q0_then : Nat) (q0_steps : Nat) (q0_sheet : Nat) (q0_next : Nat) (q0_wide : Nat) (q0_partOf : Nat) (q0_partTimes : Nat) (q0_foundAt : Nat) (k0_other : Nat → Int32) (k0_poly : Nat → Int64) (k0_then : Nat → Int64) (k0_steps : Nat → Int32) (k0_sheet : Nat → Int64) (k0_next : Nat → Int64) (k0_isParted : Int32) (k0_parts : Int32) (k0_partOf : Nat → Int32) (k0_partTimes : Nat → Int64) (k0_found : Int32) (p1 : Int32) (res : Int32 × (Nat → Int32) × (Nat → Int64) × (Nat → Int64) × (Nat → Int32) × (Nat → Int64) × Int32 × Int32 × (Nat → Int32) × (Nat → Int64)) (hf : fX6_part k0_other k0_poly k0_then k0_steps k0_sheet k0_next k0_isParted k0_parts k0_partOf k0_partTimes p1 = some res) : Ct l yX6_part wsX6_part rmX6_part G [.ref q0, .int p1] (wdX6_part G q0 q0_one q0_other q0_third q0_waysTo q0_poly q0_then q0_steps q0_sheet q0_next q0_wide q0_partOf q0_partTimes q0_foundAt k0_other k0_poly k0_then k0_steps k0_sheet k0_next k0_isParted k0_parts k0_partOf k0_partTimes k0_found) (wdX6_part G q0 q0_one q0_other q0_third q0_waysTo q0_poly q0_then q0_steps q0_sheet q0_next q0_wide q0_partOf q0_partTimes q0_foundAt res.2.1 res.2.2.1 res.2.2.2.1 res.2.2.2.2.1 k0_sheet res.2.2.2.2.2.1 res.2.2.2.2.2.2.1 res.2.2.2.2.2.2.2.1 res.2.2.2.2.2.2.2.2.1 res.2.2.2.2.2.2.2.2.2 k0_found) (some (.int res.1)) := by
  refine Ct.of (cc := cX6_part) (nL := 2) (ret := (some .int)) (by decide) rfl (Nat.le_of_ble_eq_true rfl) rfl ?_
  intro p e s m below meth c A ls C hP hD hl
  obtain ⟨hx, hb, hml, hown, hts, hr, hlocks, hA, hG⟩ := id C
  have hS : va_S A s.heap s.heap [] := va_S.rf
  unfold fX6_part at hf
  refine lv_iload_n hx hb dX6_part_0 rfl (lv_at hl 1 rfl) ?_
  refine lv_iconst (v := (-1 : Int32)) hx hb dX6_part_1 (by decide) ?_
  refine lv_icmp_ge (tgt := 8) hx hb dX6_part_2 (by decide) (fun hc => ?_) (fun hc => ?_)
  · have hf := if_t hc hf
    refine lv_aload_n hx hb dX6_part_8 rfl (lv_at hl 0 rfl) ?_
    obtain ⟨r1, hr1, hf⟩ := bd_use hf
    refine cl_V (wn := (wdX6_part G q0 q0_one q0_other q0_third q0_waysTo q0_poly q0_then q0_steps q0_sheet q0_next q0_wide q0_partOf q0_partTimes q0_foundAt r1.1 r1.2.1 r1.2.2.1 r1.2.2.2.1 k0_sheet r1.2.2.2.2.1 r1.2.2.2.2.2.1 r1.2.2.2.2.2.2.1 r1.2.2.2.2.2.2.2.1 r1.2.2.2.2.2.2.2.2 k0_found)) (st1 := []) C hP hD hS (tX6_knowsParts l G q0 q0_one q0_other q0_third q0_waysTo q0_poly q0_then q0_steps q0_sheet q0_next q0_wide q0_partOf q0_partTimes q0_foundAt k0_other k0_poly k0_then k0_steps k0_sheet k0_next k0_isParted k0_parts k0_partOf k0_partTimes k0_found r1 hr1) (cwV 0 hts gX6_part_X6_knowsParts rfl rfl rfl (by decide +kernel) ⟨Nat.le_of_ble_eq_true rfl, Nat.le_of_ble_eq_true rfl⟩) [0, 1, 2, 3, 4, 5, 6, 7, 8] [] [0, 1, 2, 3, 4, 5, 6, 7, 8] rfl rfl rfl rfl (by decide) rfl rfl (ci := 6) (q0 := 0) rfl rfl rfl rfl hl.1 rfl rfl (Nat.le_of_ble_eq_true rfl) dX6_part_9 (fun H locs hP hD hS => ?_)
    refine lv_iload_n hx hb dX6_part_12 rfl (lv_at hl 1 rfl) ?_
    refine lv_iconst (v := (-1 : Int32)) hx hb dX6_part_13 (by decide) ?_
    refine lv_icmp_ne (tgt := 24) hx hb dX6_part_14 (by decide) (fun hc => ?_) (fun hc => ?_)
    · have hf := if_f hc hf
      refine lv_iload_n hx hb dX6_part_24 rfl (lv_at hl 1 rfl) ?_
      refine lv_aload_n hx hb dX6_part_25 rfl (lv_at hl 0 rfl) ?_
      refine va_get (D := G.1) (ci := 6) (v := .int r1.2.2.2.2.2.2.1) (C := RX6) (T := TX6) (N := 16) hx hb hts nX6_part_X6 hown hG.1 hP 0 rfl rfl 11 (by decide) (hts _ mX6_part_0) (fun _ h9 => h9) rfl dX6_part_26 ?_
      refine lv_icmp_ge (tgt := 41) hx hb dX6_part_29 (by decide) (fun hc => ?_) (fun hc => ?_)
      · have hf := if_t hc hf
        refine lv_bipush (v := (-9 : Int32)) hx hb dX6_part_41 (by decide) ?_
        cases hf
        exact rt_i C hP hD hS dX6_part_43
      · have hf := if_f hc hf
        refine lv_aload_n hx hb dX6_part_32 rfl (lv_at hl 0 rfl) ?_
        refine va_get (D := G.1) (ci := 6) (v := .ref q0_partOf) (C := RX6) (T := TX6) (N := 16) hx hb hts nX6_part_X6 hown hG.1 hP 0 rfl rfl 12 (by decide) (hts _ mX6_part_1) (fun _ h9 => h9) rfl dX6_part_33 ?_
        refine lv_iload_n hx hb dX6_part_36 rfl (lv_at hl 1 rfl) ?_
        obtain ⟨hin, hf⟩ := gI_use hf
        refine va_iald hx hb hG.1 hP 7 0 rfl rfl hin dX6_part_37 ?_
        refine lv_goto (tgt := 43) hx hb dX6_part_38 (by decide) ?_
        cases hf
        exact rt_i C hP hD hS dX6_part_43
    · have hf := if_t hc hf
      refine lv_aload_n hx hb dX6_part_17 rfl (lv_at hl 0 rfl) ?_
      refine va_get (D := G.1) (ci := 6) (v := .int r1.2.2.2.2.2.2.1) (C := RX6) (T := TX6) (N := 16) hx hb hts nX6_part_X6 hown hG.1 hP 0 rfl rfl 11 (by decide) (hts _ mX6_part_0) (fun _ h9 => h9) rfl dX6_part_18 ?_
      refine lv_goto (tgt := 43) hx hb dX6_part_21 (by decide) ?_
      cases hf
      exact rt_i C hP hD hS dX6_part_43
  · have hf := if_f hc hf
    refine lv_bipush (v := (-2 : Int32)) hx hb dX6_part_5 (by decide) ?_
    cases hf
    exact rt_i C hP hD hS dX6_part_7
abbrev wdX6_times (G : GX) (q0 : Nat) (q0_one : Nat) (q0_other : Nat) (q0_third : Nat) (q0_waysTo : Nat) (q0_poly : Nat) (q0_then : Nat) (q0_steps : Nat) (q0_sheet : Nat) (q0_next : Nat) (q0_wide : Nat) (q0_partOf : Nat) (q0_partTimes : Nat) (q0_foundAt : Nat) (k0_one : Nat → Int32) (k0_other : Nat → Int32) (k0_poly : Nat → Int64) (k0_then : Nat → Int64) (k0_steps : Nat → Int32) (k0_sheet : Nat → Int64) (k0_next : Nat → Int64) (k0_isParted : Int32) (k0_parts : Int32) (k0_partOf : Nat → Int32) (k0_partTimes : Nat → Int64) (k0_found : Int32) : va_W := [(q0, .inr (6, [.ref q0_one, .ref q0_other, .ref q0_third, .ref q0_waysTo, .ref q0_poly, .ref q0_then, .ref q0_steps, .ref q0_sheet, .ref q0_next, .int k0_isParted, .ref q0_wide, .int k0_parts, .ref q0_partOf, .ref q0_partTimes, .int k0_found, .ref q0_foundAt])), (q0_one, .inl (G.2.1, 10, .inl k0_one)), (q0_other, .inl (G.2.1, 10, .inl k0_other)), (q0_poly, .inl (G.2.2.1, 3024, .inr (.inl k0_poly))), (q0_then, .inl (G.2.2.1, 3024, .inr (.inl k0_then))), (q0_steps, .inl (G.2.1, 64, .inl k0_steps)), (q0_sheet, .inl (G.2.2.1, 3024, .inr (.inl k0_sheet))), (q0_next, .inl (G.2.2.1, 3024, .inr (.inl k0_next))), (q0_partOf, .inl (G.2.1, 3024, .inl k0_partOf)), (q0_partTimes, .inl (G.2.2.1, 3024, .inr (.inl k0_partTimes)))]
abbrev rmX6_times : Room := { frames := 5, cells := 0, slots := 0, locals := 120 }
abbrev glX6_times (p : Program) (l : Launch) (e : Env) (s : State) (m : MethodId) (args : Array Value) (below : List Frame) (meth : Method) (c : Code) (G : GX) (A : Nat → Prop) (q0 : Nat) (q0_one : Nat) (q0_other : Nat) (q0_third : Nat) (q0_waysTo : Nat) (q0_poly : Nat) (q0_then : Nat) (q0_steps : Nat) (q0_sheet : Nat) (q0_next : Nat) (q0_wide : Nat) (q0_partOf : Nat) (q0_partTimes : Nat) (q0_foundAt : Nat) (k0_sheet : Nat → Int64) (k0_found : Int32) (res : Int64 × (Nat → Int32) × (Nat → Int32) × (Nat → Int64) × (Nat → Int64) × (Nat → Int32) × (Nat → Int64) × Int32 × Int32 × (Nat → Int32) × (Nat → Int64)) (H : Heap) (locs : List Loc) (pc : Nat) (ls : Array Slot) (st : List Value) : Prop := W p l e rmX6_times s m args below meth c H locs 0 0 (MQ below (ctQ G A (wdX6_times G q0 q0_one q0_other q0_third q0_waysTo q0_poly q0_then q0_steps q0_sheet q0_next q0_wide q0_partOf q0_partTimes q0_foundAt res.2.1 res.2.2.1 res.2.2.2.1 res.2.2.2.2.1 res.2.2.2.2.2.1 k0_sheet res.2.2.2.2.2.2.1 res.2.2.2.2.2.2.2.1 res.2.2.2.2.2.2.2.2.1 res.2.2.2.2.2.2.2.2.2.1 res.2.2.2.2.2.2.2.2.2.2 k0_found) (some (.long res.1))) args s 0 0 A) (F0 m pc ls st)
set_option maxRecDepth 20000 in
theorem mX6_times_0 : Cond.fieldLink RX6 162 "SchubertDeskModel" "parts" "I" ∈ wsX6_times := by decide +kernel
set_option maxRecDepth 20000 in
theorem mX6_times_1 : Cond.fieldLink RX6 42 "SchubertDeskModel" "partOf" "[I" ∈ wsX6_times := by decide +kernel
set_option maxRecDepth 20000 in
theorem mX6_times_2 : Cond.fieldLink RX6 45 "SchubertDeskModel" "partTimes" "[J" ∈ wsX6_times := by decide +kernel
set_option maxRecDepth 20000 in
theorem mX6_times_3 : Cond.fieldLink RX6 7 "SchubertDeskModel" "one" "[I" ∈ wsX6_times := by decide +kernel
set_option maxRecDepth 20000 in
theorem mX6_times_4 : Cond.constantLong RX6 134 (-9223372036854775808) ∈ wsX6_times := by decide +kernel
set_option maxRecDepth 20000 in
theorem nX6_times_X6 : ∀ w ∈ u_ws RX6 TX6 16, w ∈ wsX6_times := by decide +kernel
set_option maxHeartbeats 4000000 in
set_option maxRecDepth 100000 in
theorem wX6_times_39 {p : Program} {l : Launch} {e : Env} {s : State} {m : MethodId} {args : Array Value} {below : List Frame} {meth : Method} {c : Code} {G : GX} {A : Nat → Prop} (C : Cx p s m args meth c cX6_times 4 (some .long) wsX6_times RX6 G A) (q0 : Nat) (q0_one : Nat) (q0_other : Nat) (q0_third : Nat) (q0_waysTo : Nat) (q0_poly : Nat) (q0_then : Nat) (q0_steps : Nat) (q0_sheet : Nat) (q0_next : Nat) (q0_wide : Nat) (q0_partOf : Nat) (q0_partTimes : Nat) (q0_foundAt : Nat) (k0_sheet : Nat → Int64) (k0_found : Int32) (p1 : Int32) (res : Int64 × (Nat → Int32) × (Nat → Int32) × (Nat → Int64) × (Nat → Int64) × (Nat → Int32) × (Nat → Int64) × Int32 × Int32 × (Nat → Int32) × (Nat → Int64)) (n : Nat) : ∀ (k0_one : Nat → Int32) (k0_other : Nat → Int32) (k0_poly : Nat → Int64) (k0_then : Nat → Int64) (k0_steps : Nat → Int32) (k0_next : Nat → Int64) (k0_isParted : Int32) (k0_parts : Int32) (k0_partOf : Nat → Int32) (k0_partTimes : Nat → Int64) (x2 : Int32) (x3 : Int32) (H : Heap) (locs : List Loc) (ls : Array Slot), fX6_times_L39 k0_sheet p1 n k0_one k0_other k0_poly k0_then k0_steps k0_next k0_isParted k0_parts k0_partOf k0_partTimes x2 x3 = some res → va_P G.1 vwCl (wdX6_times G q0 q0_one q0_other q0_third q0_waysTo q0_poly q0_then q0_steps q0_sheet q0_next q0_wide q0_partOf q0_partTimes q0_foundAt k0_one k0_other k0_poly k0_then k0_steps k0_sheet k0_next k0_isParted k0_parts k0_partOf k0_partTimes k0_found) H → va_D A (wdX6_times G q0 q0_one q0_other q0_third q0_waysTo q0_poly q0_then q0_steps q0_sheet q0_next q0_wide q0_partOf q0_partTimes q0_foundAt k0_one k0_other k0_poly k0_then k0_steps k0_sheet k0_next k0_isParted k0_parts k0_partOf k0_partTimes k0_found) → va_S A s.heap H locs → lv_has ls 4 [(0, .ref q0), (2, .int x2), (3, .int x3)] → glX6_times p l e s m args below meth c G A q0 q0_one q0_other q0_third q0_waysTo q0_poly q0_then q0_steps q0_sheet q0_next q0_wide q0_partOf q0_partTimes q0_foundAt k0_sheet k0_found res H locs 39 ls [] := by
  obtain ⟨hx, hb, hml, hown, hts, hr, hlocks, hA, hG⟩ := id C
  induction n with
  | zero => intro k0_one k0_other k0_poly k0_then k0_steps k0_next k0_isParted k0_parts k0_partOf k0_partTimes x2 x3 H locs ls hf hP hD hS hl; cases hf
  | succ n ih =>
    intro k0_one k0_other k0_poly k0_then k0_steps k0_next k0_isParted k0_parts k0_partOf k0_partTimes x2 x3 H locs ls hf hP hD hS hl
    simp only [fX6_times_L39] at hf
    refine lv_iload_n hx hb dX6_times_39 rfl (lv_at hl 2 rfl) ?_
    refine lv_aload_n hx hb dX6_times_40 rfl (lv_at hl 0 rfl) ?_
    refine va_get (D := G.1) (ci := 6) (v := .int k0_parts) (C := RX6) (T := TX6) (N := 16) hx hb hts nX6_times_X6 hown hG.1 hP 0 rfl rfl 11 (by decide) (hts _ mX6_times_0) (fun _ h9 => h9) rfl dX6_times_41 ?_
    refine lv_icmp_ge (tgt := 70) hx hb dX6_times_44 (by decide) (fun hc => ?_) (fun hc => ?_)
    · have hf := if_t hc hf
      refine lv_lconst (v := (0 : Int64)) hx hb dX6_times_70 (by decide) ?_
      cases hf
      exact rt_l C hP hD hS dX6_times_71
    · have hf := if_f hc hf
      refine lv_aload_n hx hb dX6_times_47 rfl (lv_at hl 0 rfl) ?_
      refine va_get (D := G.1) (ci := 6) (v := .ref q0_partOf) (C := RX6) (T := TX6) (N := 16) hx hb hts nX6_times_X6 hown hG.1 hP 0 rfl rfl 12 (by decide) (hts _ mX6_times_1) (fun _ h9 => h9) rfl dX6_times_48 ?_
      refine lv_iload_n hx hb dX6_times_51 rfl (lv_at hl 2 rfl) ?_
      obtain ⟨hin, hf⟩ := gI_use hf
      refine va_iald hx hb hG.1 hP 8 0 rfl rfl hin dX6_times_52 ?_
      refine lv_iload_n hx hb dX6_times_53 rfl (lv_at hl 1 rfl) ?_
      refine lv_icmp_ne (tgt := 64) hx hb dX6_times_54 (by decide) (fun hc => ?_) (fun hc => ?_)
      · have hf := if_f hc hf
        obtain ⟨y2, ey2⟩ : ∃ z : Int32, z = x3 + (1 : Int32) := ⟨_, rfl⟩
        have hf := nm_use ey2 hf
        refine lv_iinc (v := y2) (lv' := [(3, .int y2), (0, .ref q0), (2, .int x2)]) hx hb dX6_times_64 hl (k := 2) rfl (by rw [ey2]; rfl) (by decide) rfl (fun ls hl => ?_)
        refine lv_goto (tgt := 39) hx hb dX6_times_67 (by decide) ?_
        exact ih k0_one k0_other k0_poly k0_then k0_steps k0_next k0_isParted k0_parts k0_partOf k0_partTimes x2 y2 _ _ ls hf hP hD hS (lv_sub hl [1, 2, 0] rfl)
      · have hf := if_t hc hf
        refine lv_aload_n hx hb dX6_times_57 rfl (lv_at hl 0 rfl) ?_
        refine va_get (D := G.1) (ci := 6) (v := .ref q0_partTimes) (C := RX6) (T := TX6) (N := 16) hx hb hts nX6_times_X6 hown hG.1 hP 0 rfl rfl 13 (by decide) (hts _ mX6_times_2) (fun _ h9 => h9) rfl dX6_times_58 ?_
        refine lv_iload_n hx hb dX6_times_61 rfl (lv_at hl 2 rfl) ?_
        obtain ⟨hin, hf⟩ := gJ_use hf
        refine va_lald hx hb hG.1 hP 9 1 rfl rfl hin dX6_times_62 ?_
        cases hf
        exact rt_l C hP hD hS dX6_times_63
set_option maxHeartbeats 4000000 in
set_option maxRecDepth 100000 in
theorem tX6_times (l : Launch) (G : GX) (q0 : Nat) (q0_one : Nat) (q0_other : Nat) (q0_third : Nat) (q0_waysTo : Nat) (q0_poly : Nat) (q0_then : Nat) (q0_steps : Nat) (q0_sheet : Nat) (q0_next : Nat) (q0_wide : Nat) (q0_partOf : Nat) (q0_partTimes : Nat) (q0_foundAt : Nat) (k0_one : Nat → Int32) (k0_other : Nat → Int32) (k0_poly : Nat → Int64) (k0_then : Nat → Int64) (k0_steps : Nat → Int32) (k0_sheet : Nat → Int64) (k0_next : Nat → Int64) (k0_isParted : Int32) (k0_parts : Int32) (k0_partOf : Nat → Int32) (k0_partTimes : Nat → Int64) (k0_found : Int32) (p1 : Int32) (res : Int64 × (Nat → Int32) × (Nat → Int32) × (Nat → Int64) × (Nat → Int64) × (Nat → Int32) × (Nat → Int64) × Int32 × Int32 × (Nat → Int32) × (Nat → Int64)) (hf : fX6_times k0_one k0_other k0_poly k0_then k0_steps k0_sheet k0_next k0_isParted k0_parts k0_partOf k0_partTimes p1 = some res) : Ct l yX6_times wsX6_times rmX6_times G [.ref q0, .int p1] (wdX6_times G q0 q0_one q0_other q0_third q0_waysTo q0_poly q0_then q0_steps q0_sheet q0_next q0_wide q0_partOf q0_partTimes q0_foundAt k0_one k0_other k0_poly k0_then k0_steps k0_sheet k0_next k0_isParted k0_parts k0_partOf k0_partTimes k0_found) (wdX6_times G q0 q0_one q0_other q0_third q0_waysTo q0_poly q0_then q0_steps q0_sheet q0_next q0_wide q0_partOf q0_partTimes q0_foundAt res.2.1 res.2.2.1 res.2.2.2.1 res.2.2.2.2.1 res.2.2.2.2.2.1 k0_sheet res.2.2.2.2.2.2.1 res.2.2.2.2.2.2.2.1 res.2.2.2.2.2.2.2.2.1 res.2.2.2.2.2.2.2.2.2.1 res.2.2.2.2.2.2.2.2.2.2 k0_found) (some (.long res.1)) := by
  refine Ct.of (cc := cX6_times) (nL := 4) (ret := (some .long)) (by decide) rfl (Nat.le_of_ble_eq_true rfl) rfl ?_
  intro p e s m below meth c A ls C hP hD hl
  obtain ⟨hx, hb, hml, hown, hts, hr, hlocks, hA, hG⟩ := id C
  have hS : va_S A s.heap s.heap [] := va_S.rf
  unfold fX6_times at hf
  refine lv_iload_n hx hb dX6_times_0 rfl (lv_at hl 1 rfl) ?_
  refine lv_aload_n hx hb dX6_times_1 rfl (lv_at hl 0 rfl) ?_
  refine va_get (D := G.1) (ci := 6) (v := .ref q0_one) (C := RX6) (T := TX6) (N := 16) hx hb hts nX6_times_X6 hown hG.1 hP 0 rfl rfl 0 (by decide) (hts _ mX6_times_3) (fun _ h9 => h9) rfl dX6_times_2 ?_
  obtain ⟨r4, hr4, hf⟩ := bd_use hf
  refine cl_S (wn := (wdX6_times G q0 q0_one q0_other q0_third q0_waysTo q0_poly q0_then q0_steps q0_sheet q0_next q0_wide q0_partOf q0_partTimes q0_foundAt r4.2 k0_other k0_poly k0_then k0_steps k0_sheet k0_next k0_isParted k0_parts k0_partOf k0_partTimes k0_found)) (st1 := [.int r4.1]) C hP hD hS (tX6_lays l G q0_one k0_one p1 r4 hr4) (va_cwS 2 hts gX6_times_X6_lays rfl rfl rfl (by decide +kernel) ⟨Nat.le_of_ble_eq_true rfl, Nat.le_of_ble_eq_true rfl⟩) [1] [0, 2, 3, 4, 5, 6, 7, 8, 9] [0, 9, 1, 2, 3, 4, 5, 6, 7, 8] rfl rfl rfl rfl (by decide) rfl rfl rfl hl.1 rfl rfl (Nat.le_of_ble_eq_true rfl) dX6_times_5 (fun H locs hP hD hS => ?_)
  refine lv_if_eq (tgt := 21) hx hb dX6_times_8 (by decide) (fun hc => ?_) (fun hc => ?_)
  · have hf := if_t hc hf
    refine lv_ldc2 (v := (-9223372036854775808 : Int64)) hx hb hown (hts _ mX6_times_4) dX6_times_21 ?_
    cases hf
    exact rt_l C hP hD hS dX6_times_24
  · have hf := if_f hc hf
    refine lv_aload_n hx hb dX6_times_11 rfl (lv_at hl 0 rfl) ?_
    refine va_get (D := G.1) (ci := 6) (v := .ref q0_one) (C := RX6) (T := TX6) (N := 16) hx hb hts nX6_times_X6 hown hG.1 hP 0 rfl rfl 0 (by decide) (hts _ mX6_times_3) (fun _ h9 => h9) rfl dX6_times_12 ?_
    obtain ⟨r5, hr5, hf⟩ := bd_use hf
    refine cl_S (wn := (wdX6_times G q0 q0_one q0_other q0_third q0_waysTo q0_poly q0_then q0_steps q0_sheet q0_next q0_wide q0_partOf q0_partTimes q0_foundAt r4.2 k0_other k0_poly k0_then k0_steps k0_sheet k0_next k0_isParted k0_parts k0_partOf k0_partTimes k0_found)) (st1 := [.int r5]) C hP hD hS (tX6_isFit l G q0_one r4.2 r5 hr5) (va_cwS 1 hts gX6_times_X6_isFit rfl rfl rfl (by decide +kernel) ⟨Nat.le_of_ble_eq_true rfl, Nat.le_of_ble_eq_true rfl⟩) [1] [0, 2, 3, 4, 5, 6, 7, 8, 9] [0, 9, 1, 2, 3, 4, 5, 6, 7, 8] rfl rfl rfl rfl (by decide) rfl rfl rfl hl.1 rfl rfl (Nat.le_of_ble_eq_true rfl) dX6_times_15 (fun H locs hP hD hS => ?_)
    refine lv_if_ne (tgt := 25) hx hb dX6_times_18 (by decide) (fun hc => ?_) (fun hc => ?_)
    · have hf := if_f hc hf
      refine lv_aload_n hx hb dX6_times_25 rfl (lv_at hl 0 rfl) ?_
      obtain ⟨r6, hr6, hf⟩ := bd_use hf
      refine cl_V (wn := (wdX6_times G q0 q0_one q0_other q0_third q0_waysTo q0_poly q0_then q0_steps q0_sheet q0_next q0_wide q0_partOf q0_partTimes q0_foundAt r4.2 r6.1 r6.2.1 r6.2.2.1 r6.2.2.2.1 k0_sheet r6.2.2.2.2.1 r6.2.2.2.2.2.1 r6.2.2.2.2.2.2.1 r6.2.2.2.2.2.2.2.1 r6.2.2.2.2.2.2.2.2 k0_found)) (st1 := []) C hP hD hS (tX6_knowsParts l G q0 q0_one q0_other q0_third q0_waysTo q0_poly q0_then q0_steps q0_sheet q0_next q0_wide q0_partOf q0_partTimes q0_foundAt k0_other k0_poly k0_then k0_steps k0_sheet k0_next k0_isParted k0_parts k0_partOf k0_partTimes k0_found r6 hr6) (cwV 0 hts gX6_times_X6_knowsParts rfl rfl rfl (by decide +kernel) ⟨Nat.le_of_ble_eq_true rfl, Nat.le_of_ble_eq_true rfl⟩) [0, 2, 3, 4, 5, 6, 7, 8, 9] [1] [1, 0, 2, 3, 4, 5, 6, 7, 8, 9] rfl rfl rfl rfl (by decide) rfl rfl (ci := 6) (q0 := 0) rfl rfl rfl rfl hl.1 rfl rfl (Nat.le_of_ble_eq_true rfl) dX6_times_26 (fun H locs hP hD hS => ?_)
      refine lv_aload_n hx hb dX6_times_29 rfl (lv_at hl 0 rfl) ?_
      refine va_get (D := G.1) (ci := 6) (v := .ref q0_one) (C := RX6) (T := TX6) (N := 16) hx hb hts nX6_times_X6 hown hG.1 hP 0 rfl rfl 0 (by decide) (hts _ mX6_times_3) (fun _ h9 => h9) rfl dX6_times_30 ?_
      obtain ⟨r7, hr7, hf⟩ := bd_use hf
      refine cl_S (wn := (wdX6_times G q0 q0_one q0_other q0_third q0_waysTo q0_poly q0_then q0_steps q0_sheet q0_next q0_wide q0_partOf q0_partTimes q0_foundAt r4.2 r6.1 r6.2.1 r6.2.2.1 r6.2.2.2.1 k0_sheet r6.2.2.2.2.1 r6.2.2.2.2.2.1 r6.2.2.2.2.2.2.1 r6.2.2.2.2.2.2.2.1 r6.2.2.2.2.2.2.2.2 k0_found)) (st1 := [.int r7]) C hP hD hS (tX6_plainOf l G q0_one r4.2 r7 hr7) (va_cwS 1 hts gX6_times_X6_plainOf rfl rfl rfl (by decide +kernel) ⟨Nat.le_of_ble_eq_true rfl, Nat.le_of_ble_eq_true rfl⟩) [1] [0, 2, 3, 4, 5, 6, 7, 8, 9] [0, 9, 1, 2, 3, 4, 5, 6, 7, 8] rfl rfl rfl rfl (by decide) rfl rfl rfl hl.1 rfl rfl (Nat.le_of_ble_eq_true rfl) dX6_times_33 (fun H locs hP hD hS => ?_)
      refine lv_istore_n (lv' := [(2, .int r7), (0, .ref q0), (1, .int p1)]) hx hb dX6_times_36 rfl hl (by decide) rfl (fun ls hl => ?_)
      refine lv_iconst (v := (0 : Int32)) hx hb dX6_times_37 (by decide) ?_
      refine lv_istore_n (lv' := [(3, .int (0 : Int32)), (2, .int r7), (0, .ref q0), (1, .int p1)]) hx hb dX6_times_38 rfl hl (by decide) rfl (fun ls hl => ?_)
      exact wX6_times_39 C q0 q0_one q0_other q0_third q0_waysTo q0_poly q0_then q0_steps q0_sheet q0_next q0_wide q0_partOf q0_partTimes q0_foundAt k0_sheet k0_found p1 res fu r4.2 r6.1 r6.2.1 r6.2.2.1 r6.2.2.2.1 r6.2.2.2.2.1 r6.2.2.2.2.2.1 r6.2.2.2.2.2.2.1 r6.2.2.2.2.2.2.2.1 r6.2.2.2.2.2.2.2.2 r7 (0 : Int32) _ _ ls hf hP hD hS (lv_sub hl [2, 1, 0] rfl)
    · have hf := if_t hc hf
      refine lv_ldc2 (v := (-9223372036854775808 : Int64)) hx hb hown (hts _ mX6_times_4) dX6_times_21 ?_
      cases hf
      exact rt_l C hP hD hS dX6_times_24
abbrev wdX6_bitOf (G : GX) : va_W := []
abbrev rmX6_bitOf : Room := { frames := 0, cells := 0, slots := 0, locals := 0 }
abbrev glX6_bitOf (p : Program) (l : Launch) (e : Env) (s : State) (m : MethodId) (args : Array Value) (below : List Frame) (meth : Method) (c : Code) (G : GX) (A : Nat → Prop) (res : Int32) (H : Heap) (locs : List Loc) (pc : Nat) (ls : Array Slot) (st : List Value) : Prop := W p l e rmX6_bitOf s m args below meth c H locs 0 0 (MQ below (ctQ G A (wdX6_bitOf G) (some (.int res))) args s 0 0 A) (F0 m pc ls st)
set_option maxHeartbeats 4000000 in
set_option maxRecDepth 100000 in
theorem tX6_bitOf (l : Launch) (G : GX) (p0 : Int32) (p1 : Int32) (res : Int32) (hf : fX6_bitOf p0 p1 = some res) : Ct l yX6_bitOf wsX6_bitOf rmX6_bitOf G [.int p0, .int p1] (wdX6_bitOf G) (wdX6_bitOf G) (some (.int res)) := by
  refine Ct.of (cc := cX6_bitOf) (nL := 2) (ret := (some .int)) (by decide) rfl (Nat.le_of_ble_eq_true rfl) rfl ?_
  intro p e s m below meth c A ls C hP hD hl
  obtain ⟨hx, hb, hml, hown, hts, hr, hlocks, hA, hG⟩ := id C
  have hS : va_S A s.heap s.heap [] := va_S.rf
  unfold fX6_bitOf at hf
  refine lv_iload_n hx hb dX6_bitOf_0 rfl (lv_at hl 0 rfl) ?_
  refine lv_iconst (v := (1 : Int32)) hx hb dX6_bitOf_1 (by decide) ?_
  refine lv_icmp_ne (tgt := 11) hx hb dX6_bitOf_2 (by decide) (fun hc => ?_) (fun hc => ?_)
  · have hf := if_f hc hf
    refine lv_iload_n hx hb dX6_bitOf_11 rfl (lv_at hl 0 rfl) ?_
    refine lv_iconst (v := (2 : Int32)) hx hb dX6_bitOf_12 (by decide) ?_
    refine lv_icmp_ne (tgt := 22) hx hb dX6_bitOf_13 (by decide) (fun hc => ?_) (fun hc => ?_)
    · have hf := if_f hc hf
      refine lv_iload_n hx hb dX6_bitOf_22 rfl (lv_at hl 0 rfl) ?_
      refine lv_iconst (v := (3 : Int32)) hx hb dX6_bitOf_23 (by decide) ?_
      refine lv_icmp_ne (tgt := 34) hx hb dX6_bitOf_24 (by decide) (fun hc => ?_) (fun hc => ?_)
      · have hf := if_f hc hf
        refine lv_bipush (v := (9 : Int32)) hx hb dX6_bitOf_34 (by decide) ?_
        cases hf
        exact rt_i C hP hD hS dX6_bitOf_36
      · have hf := if_t hc hf
        refine lv_iload_n hx hb dX6_bitOf_27 rfl (lv_at hl 1 rfl) ?_
        refine lv_bipush (v := (6 : Int32)) hx hb dX6_bitOf_28 (by decide) ?_
        refine lv_iadd hx hb dX6_bitOf_30 ?_
        refine lv_goto (tgt := 36) hx hb dX6_bitOf_31 (by decide) ?_
        cases hf
        exact rt_i C hP hD hS dX6_bitOf_36
    · have hf := if_t hc hf
      refine lv_iload_n hx hb dX6_bitOf_16 rfl (lv_at hl 1 rfl) ?_
      refine lv_iconst (v := (3 : Int32)) hx hb dX6_bitOf_17 (by decide) ?_
      refine lv_iadd hx hb dX6_bitOf_18 ?_
      refine lv_goto (tgt := 36) hx hb dX6_bitOf_19 (by decide) ?_
      cases hf
      exact rt_i C hP hD hS dX6_bitOf_36
  · have hf := if_t hc hf
    refine lv_iload_n hx hb dX6_bitOf_5 rfl (lv_at hl 1 rfl) ?_
    refine lv_iconst (v := (1 : Int32)) hx hb dX6_bitOf_6 (by decide) ?_
    refine lv_isub hx hb dX6_bitOf_7 ?_
    refine lv_goto (tgt := 36) hx hb dX6_bitOf_8 (by decide) ?_
    cases hf
    exact rt_i C hP hD hS dX6_bitOf_36
abbrev wdX6_isPlace (G : GX) : va_W := []
abbrev rmX6_isPlace : Room := { frames := 1, cells := 0, slots := 0, locals := 22 }
abbrev glX6_isPlace (p : Program) (l : Launch) (e : Env) (s : State) (m : MethodId) (args : Array Value) (below : List Frame) (meth : Method) (c : Code) (G : GX) (A : Nat → Prop) (res : Int32) (H : Heap) (locs : List Loc) (pc : Nat) (ls : Array Slot) (st : List Value) : Prop := W p l e rmX6_isPlace s m args below meth c H locs 0 0 (MQ below (ctQ G A (wdX6_isPlace G) (some (.int res))) args s 0 0 A) (F0 m pc ls st)
set_option maxHeartbeats 4000000 in
set_option maxRecDepth 100000 in
theorem tX6_isPlace (l : Launch) (G : GX) (p0 : Int32) (p1 : Int32) (res : Int32) (hf : fX6_isPlace p0 p1 = some res) : Ct l yX6_isPlace wsX6_isPlace rmX6_isPlace G [.int p0, .int p1] (wdX6_isPlace G) (wdX6_isPlace G) (some (.int res)) := by
  refine Ct.of (cc := cX6_isPlace) (nL := 2) (ret := (some .boolean)) (by decide) rfl (Nat.le_of_ble_eq_true rfl) rfl ?_
  intro p e s m below meth c A ls C hP hD hl
  obtain ⟨hx, hb, hml, hown, hts, hr, hlocks, hA, hG⟩ := id C
  have hS : va_S A s.heap s.heap [] := va_S.rf
  unfold fX6_isPlace at hf
  refine lv_iload_n hx hb dX6_isPlace_0 rfl (lv_at hl 0 rfl) ?_
  refine lv_iconst (v := (1 : Int32)) hx hb dX6_isPlace_1 (by decide) ?_
  refine lv_iconst (v := (4 : Int32)) hx hb dX6_isPlace_2 (by decide) ?_
  obtain ⟨r1, hr1, hf⟩ := bd_use hf
  refine cl_S (wn := (wdX6_isPlace G)) (st1 := [.int r1]) C hP hD hS (tX6_within l G p0 (1 : Int32) (4 : Int32) r1 hr1) (va_cwS 3 hts gX6_isPlace_X6_within rfl rfl rfl (by decide +kernel) ⟨Nat.le_of_ble_eq_true rfl, Nat.le_of_ble_eq_true rfl⟩) [] [] [] rfl rfl rfl rfl (by decide) rfl rfl rfl hl.1 rfl rfl (Nat.le_of_ble_eq_true rfl) dX6_isPlace_3 (fun H locs hP hD hS => ?_)
  refine lv_if_eq (tgt := 24) hx hb dX6_isPlace_6 (by decide) (fun hc => ?_) (fun hc => ?_)
  · have hf := if_t hc hf
    refine lv_iconst (v := (0 : Int32)) hx hb dX6_isPlace_24 (by decide) ?_
    cases hf
    exact rt_z C (Or.inl rfl) hP hD hS dX6_isPlace_25
  · have hf := if_f hc hf
    refine lv_iload_n hx hb dX6_isPlace_9 rfl (lv_at hl 1 rfl) ?_
    refine lv_iconst (v := (1 : Int32)) hx hb dX6_isPlace_10 (by decide) ?_
    refine lv_iconst (v := (5 : Int32)) hx hb dX6_isPlace_11 (by decide) ?_
    refine lv_iload_n hx hb dX6_isPlace_12 rfl (lv_at hl 0 rfl) ?_
    refine lv_isub hx hb dX6_isPlace_13 ?_
    obtain ⟨r2, hr2, hf⟩ := bd_use hf
    refine cl_S (wn := (wdX6_isPlace G)) (st1 := [.int r2]) C hP hD hS (tX6_within l G p1 (1 : Int32) ((5 : Int32) - p0) r2 hr2) (va_cwS 3 hts gX6_isPlace_X6_within rfl rfl rfl (by decide +kernel) ⟨Nat.le_of_ble_eq_true rfl, Nat.le_of_ble_eq_true rfl⟩) [] [] [] rfl rfl rfl rfl (by decide) rfl rfl rfl hl.1 rfl rfl (Nat.le_of_ble_eq_true rfl) dX6_isPlace_14 (fun H locs hP hD hS => ?_)
    refine lv_if_eq (tgt := 24) hx hb dX6_isPlace_17 (by decide) (fun hc => ?_) (fun hc => ?_)
    · have hf := if_t hc hf
      refine lv_iconst (v := (0 : Int32)) hx hb dX6_isPlace_24 (by decide) ?_
      cases hf
      exact rt_z C (Or.inl rfl) hP hD hS dX6_isPlace_25
    · have hf := if_f hc hf
      refine lv_iconst (v := (1 : Int32)) hx hb dX6_isPlace_20 (by decide) ?_
      refine lv_goto (tgt := 25) hx hb dX6_isPlace_21 (by decide) ?_
      cases hf
      exact rt_z C (Or.inr rfl) hP hD hS dX6_isPlace_25
abbrev wdX6_isCross (G : GX) : va_W := []
abbrev rmX6_isCross : Room := { frames := 2, cells := 0, slots := 0, locals := 43 }
abbrev glX6_isCross (p : Program) (l : Launch) (e : Env) (s : State) (m : MethodId) (args : Array Value) (below : List Frame) (meth : Method) (c : Code) (G : GX) (A : Nat → Prop) (res : Int32) (H : Heap) (locs : List Loc) (pc : Nat) (ls : Array Slot) (st : List Value) : Prop := W p l e rmX6_isCross s m args below meth c H locs 0 0 (MQ below (ctQ G A (wdX6_isCross G) (some (.int res))) args s 0 0 A) (F0 m pc ls st)
set_option maxHeartbeats 4000000 in
set_option maxRecDepth 100000 in
theorem tX6_isCross (l : Launch) (G : GX) (p0 : Int32) (p1 : Int32) (p2 : Int32) (res : Int32) (hf : fX6_isCross p0 p1 p2 = some res) : Ct l yX6_isCross wsX6_isCross rmX6_isCross G [.int p0, .int p1, .int p2] (wdX6_isCross G) (wdX6_isCross G) (some (.int res)) := by
  refine Ct.of (cc := cX6_isCross) (nL := 3) (ret := (some .boolean)) (by decide) rfl (Nat.le_of_ble_eq_true rfl) rfl ?_
  intro p e s m below meth c A ls C hP hD hl
  obtain ⟨hx, hb, hml, hown, hts, hr, hlocks, hA, hG⟩ := id C
  have hS : va_S A s.heap s.heap [] := va_S.rf
  unfold fX6_isCross at hf
  refine lv_iload_n hx hb dX6_isCross_0 rfl (lv_at hl 1 rfl) ?_
  refine lv_iload_n hx hb dX6_isCross_1 rfl (lv_at hl 2 rfl) ?_
  obtain ⟨r1, hr1, hf⟩ := bd_use hf
  refine cl_S (wn := (wdX6_isCross G)) (st1 := [.int r1]) C hP hD hS (tX6_isPlace l G p1 p2 r1 hr1) (va_cwS 2 hts gX6_isCross_X6_isPlace rfl rfl rfl (by decide +kernel) ⟨Nat.le_of_ble_eq_true rfl, Nat.le_of_ble_eq_true rfl⟩) [] [] [] rfl rfl rfl rfl (by decide) rfl rfl rfl hl.1 rfl rfl (Nat.le_of_ble_eq_true rfl) dX6_isCross_2 (fun H locs hP hD hS => ?_)
  refine lv_if_eq (tgt := 25) hx hb dX6_isCross_5 (by decide) (fun hc => ?_) (fun hc => ?_)
  · have hf := if_t hc hf
    refine lv_iconst (v := (0 : Int32)) hx hb dX6_isCross_25 (by decide) ?_
    cases hf
    exact rt_z C (Or.inl rfl) hP hD hS dX6_isCross_26
  · have hf := if_f hc hf
    refine lv_iload_n hx hb dX6_isCross_8 rfl (lv_at hl 0 rfl) ?_
    refine lv_iload_n hx hb dX6_isCross_9 rfl (lv_at hl 1 rfl) ?_
    refine lv_iload_n hx hb dX6_isCross_10 rfl (lv_at hl 2 rfl) ?_
    obtain ⟨r2, hr2, hf⟩ := bd_use hf
    refine cl_S (wn := (wdX6_isCross G)) (st1 := [.int r2, .int p0]) C hP hD hS (tX6_bitOf l G p1 p2 r2 hr2) (va_cwS 2 hts gX6_isCross_X6_bitOf rfl rfl rfl (by decide +kernel) ⟨Nat.le_of_ble_eq_true rfl, Nat.le_of_ble_eq_true rfl⟩) [] [] [] rfl rfl rfl rfl (by decide) rfl rfl rfl hl.1 rfl rfl (Nat.le_of_ble_eq_true rfl) dX6_isCross_11 (fun H locs hP hD hS => ?_)
    refine lv_ishr hx hb dX6_isCross_14 ?_
    refine lv_iconst (v := (1 : Int32)) hx hb dX6_isCross_15 (by decide) ?_
    refine lv_iand hx hb dX6_isCross_16 ?_
    refine lv_iconst (v := (1 : Int32)) hx hb dX6_isCross_17 (by decide) ?_
    refine lv_icmp_ne (tgt := 25) hx hb dX6_isCross_18 (by decide) (fun hc => ?_) (fun hc => ?_)
    · have hf := if_f hc hf
      refine lv_iconst (v := (0 : Int32)) hx hb dX6_isCross_25 (by decide) ?_
      cases hf
      exact rt_z C (Or.inl rfl) hP hD hS dX6_isCross_26
    · have hf := if_t hc hf
      refine lv_iconst (v := (1 : Int32)) hx hb dX6_isCross_21 (by decide) ?_
      refine lv_goto (tgt := 26) hx hb dX6_isCross_22 (by decide) ?_
      cases hf
      exact rt_z C (Or.inr rfl) hP hD hS dX6_isCross_26
abbrev wdX6_areTight (G : GX) (q0 : Nat) (q0_one : Nat) (q0_other : Nat) (q0_third : Nat) (q0_waysTo : Nat) (q0_poly : Nat) (q0_then : Nat) (q0_steps : Nat) (q0_sheet : Nat) (q0_next : Nat) (q0_wide : Nat) (q0_partOf : Nat) (q0_partTimes : Nat) (q0_foundAt : Nat) (k0_other : Nat → Int32) (k0_isParted : Int32) (k0_parts : Int32) (k0_found : Int32) : va_W := [(q0, .inr (6, [.ref q0_one, .ref q0_other, .ref q0_third, .ref q0_waysTo, .ref q0_poly, .ref q0_then, .ref q0_steps, .ref q0_sheet, .ref q0_next, .int k0_isParted, .ref q0_wide, .int k0_parts, .ref q0_partOf, .ref q0_partTimes, .int k0_found, .ref q0_foundAt])), (q0_other, .inl (G.2.1, 10, .inl k0_other))]
abbrev rmX6_areTight : Room := { frames := 3, cells := 0, slots := 0, locals := 65 }
abbrev glX6_areTight (p : Program) (l : Launch) (e : Env) (s : State) (m : MethodId) (args : Array Value) (below : List Frame) (meth : Method) (c : Code) (G : GX) (A : Nat → Prop) (q0 : Nat) (q0_one : Nat) (q0_other : Nat) (q0_third : Nat) (q0_waysTo : Nat) (q0_poly : Nat) (q0_then : Nat) (q0_steps : Nat) (q0_sheet : Nat) (q0_next : Nat) (q0_wide : Nat) (q0_partOf : Nat) (q0_partTimes : Nat) (q0_foundAt : Nat) (k0_isParted : Int32) (k0_parts : Int32) (k0_found : Int32) (res : Int32 × (Nat → Int32)) (H : Heap) (locs : List Loc) (pc : Nat) (ls : Array Slot) (st : List Value) : Prop := W p l e rmX6_areTight s m args below meth c H locs 0 0 (MQ below (ctQ G A (wdX6_areTight G q0 q0_one q0_other q0_third q0_waysTo q0_poly q0_then q0_steps q0_sheet q0_next q0_wide q0_partOf q0_partTimes q0_foundAt res.2 k0_isParted k0_parts k0_found) (some (.int res.1))) args s 0 0 A) (F0 m pc ls st)
set_option maxRecDepth 20000 in
theorem mX6_areTight_0 : Cond.fieldLink RX6 13 "SchubertDeskModel" "other" "[I" ∈ wsX6_areTight := by decide +kernel
set_option maxRecDepth 20000 in
theorem nX6_areTight_X6 : ∀ w ∈ u_ws RX6 TX6 16, w ∈ wsX6_areTight := by decide +kernel
set_option maxHeartbeats 4000000 in
set_option maxRecDepth 100000 in
theorem wX6_areTight_35 {p : Program} {l : Launch} {e : Env} {s : State} {m : MethodId} {args : Array Value} {below : List Frame} {meth : Method} {c : Code} {G : GX} {A : Nat → Prop} (C : Cx p s m args meth c cX6_areTight 5 (some .boolean) wsX6_areTight RX6 G A) (q0 : Nat) (q0_one : Nat) (q0_other : Nat) (q0_third : Nat) (q0_waysTo : Nat) (q0_poly : Nat) (q0_then : Nat) (q0_steps : Nat) (q0_sheet : Nat) (q0_next : Nat) (q0_wide : Nat) (q0_partOf : Nat) (q0_partTimes : Nat) (q0_foundAt : Nat) (k0_isParted : Int32) (k0_parts : Int32) (k0_found : Int32) (p1 : Int32) (res : Int32 × (Nat → Int32)) (rec25 : (Nat → Int32) → Int32 → Int32 → Option (Int32 × (Nat → Int32))) (hr25 : ∀ (k0_other : Nat → Int32) (x2 : Int32) (x3 : Int32) (H : Heap) (locs : List Loc) (ls : Array Slot), rec25 k0_other x2 x3 = some res → va_P G.1 vwCl (wdX6_areTight G q0 q0_one q0_other q0_third q0_waysTo q0_poly q0_then q0_steps q0_sheet q0_next q0_wide q0_partOf q0_partTimes q0_foundAt k0_other k0_isParted k0_parts k0_found) H → va_D A (wdX6_areTight G q0 q0_one q0_other q0_third q0_waysTo q0_poly q0_then q0_steps q0_sheet q0_next q0_wide q0_partOf q0_partTimes q0_foundAt k0_other k0_isParted k0_parts k0_found) → va_S A s.heap H locs → lv_has ls 5 [(0, .ref q0), (1, .int p1), (2, .int x2), (3, .int x3)] → glX6_areTight p l e s m args below meth c G A q0 q0_one q0_other q0_third q0_waysTo q0_poly q0_then q0_steps q0_sheet q0_next q0_wide q0_partOf q0_partTimes q0_foundAt k0_isParted k0_parts k0_found res H locs 25 ls []) (n : Nat) : ∀ (k0_other : Nat → Int32) (x2 : Int32) (x3 : Int32) (x4 : Int32) (H : Heap) (locs : List Loc) (ls : Array Slot), fX6_areTight_L35 p1 rec25 n k0_other x2 x3 x4 = some res → va_P G.1 vwCl (wdX6_areTight G q0 q0_one q0_other q0_third q0_waysTo q0_poly q0_then q0_steps q0_sheet q0_next q0_wide q0_partOf q0_partTimes q0_foundAt k0_other k0_isParted k0_parts k0_found) H → va_D A (wdX6_areTight G q0 q0_one q0_other q0_third q0_waysTo q0_poly q0_then q0_steps q0_sheet q0_next q0_wide q0_partOf q0_partTimes q0_foundAt k0_other k0_isParted k0_parts k0_found) → va_S A s.heap H locs → lv_has ls 5 [(0, .ref q0), (1, .int p1), (2, .int x2), (3, .int x3), (4, .int x4)] → glX6_areTight p l e s m args below meth c G A q0 q0_one q0_other q0_third q0_waysTo q0_poly q0_then q0_steps q0_sheet q0_next q0_wide q0_partOf q0_partTimes q0_foundAt k0_isParted k0_parts k0_found res H locs 35 ls [] := by
  obtain ⟨hx, hb, hml, hown, hts, hr, hlocks, hA, hG⟩ := id C
  induction n with
  | zero => intro k0_other x2 x3 x4 H locs ls hf hP hD hS hl; cases hf
  | succ n ih =>
    intro k0_other x2 x3 x4 H locs ls hf hP hD hS hl
    simp only [fX6_areTight_L35] at hf
    refine lv_iload hx hb dX6_areTight_35 (lv_at hl 4 rfl) ?_
    refine lv_if_le (tgt := 76) hx hb dX6_areTight_37 (by decide) (fun hc => ?_) (fun hc => ?_)
    · have hf := if_t hc hf
      obtain ⟨y1, ey1⟩ : ∃ z : Int32, z = x3 + (1 : Int32) := ⟨_, rfl⟩
      have hf := nm_use ey1 hf
      refine lv_iinc (v := y1) (lv' := [(3, .int y1), (0, .ref q0), (1, .int p1), (2, .int x2), (4, .int x4)]) hx hb dX6_areTight_76 hl (k := 3) rfl (by rw [ey1]; rfl) (by decide) rfl (fun ls hl => ?_)
      refine lv_goto (tgt := 25) hx hb dX6_areTight_79 (by decide) ?_
      exact hr25 k0_other x2 y1 _ _ ls hf hP hD hS (lv_sub hl [1, 2, 3, 0] rfl)
    · have hf := if_f hc hf
      refine lv_iload_n hx hb dX6_areTight_40 rfl (lv_at hl 1 rfl) ?_
      refine lv_iload_n hx hb dX6_areTight_41 rfl (lv_at hl 3 rfl) ?_
      refine lv_iload hx hb dX6_areTight_42 (lv_at hl 4 rfl) ?_
      obtain ⟨r2, hr2, hf⟩ := bd_use hf
      refine cl_S (wn := (wdX6_areTight G q0 q0_one q0_other q0_third q0_waysTo q0_poly q0_then q0_steps q0_sheet q0_next q0_wide q0_partOf q0_partTimes q0_foundAt k0_other k0_isParted k0_parts k0_found)) (st1 := [.int r2]) C hP hD hS (tX6_isCross l G p1 x3 x4 r2 hr2) (va_cwS 3 hts gX6_areTight_X6_isCross rfl rfl rfl (by decide +kernel) ⟨Nat.le_of_ble_eq_true rfl, Nat.le_of_ble_eq_true rfl⟩) [] [0, 1] [0, 1] rfl rfl rfl rfl (by decide) rfl rfl rfl hl.1 rfl rfl (Nat.le_of_ble_eq_true rfl) dX6_areTight_44 (fun H locs hP hD hS => ?_)
      refine lv_if_eq (tgt := 70) hx hb dX6_areTight_47 (by decide) (fun hc => ?_) (fun hc => ?_)
      · have hf := if_t hc hf
        obtain ⟨y3, ey3⟩ : ∃ z : Int32, z = x4 + (-1 : Int32) := ⟨_, rfl⟩
        have hf := nm_use ey3 hf
        refine lv_iinc (v := y3) (lv' := [(4, .int y3), (0, .ref q0), (1, .int p1), (2, .int x2), (3, .int x3)]) hx hb dX6_areTight_70 hl (k := 4) rfl (by rw [ey3]; rfl) (by decide) rfl (fun ls hl => ?_)
        refine lv_goto (tgt := 35) hx hb dX6_areTight_73 (by decide) ?_
        exact ih k0_other x2 x3 y3 _ _ ls hf hP hD hS (lv_sub hl [1, 2, 3, 4, 0] rfl)
      · have hf := if_f hc hf
        refine lv_aload_n hx hb dX6_areTight_50 rfl (lv_at hl 0 rfl) ?_
        refine va_get (D := G.1) (ci := 6) (v := .ref q0_other) (C := RX6) (T := TX6) (N := 16) hx hb hts nX6_areTight_X6 hown hG.1 hP 0 rfl rfl 1 (by decide) (hts _ mX6_areTight_0) (fun _ h9 => h9) rfl dX6_areTight_51 ?_
        refine lv_iload_n hx hb dX6_areTight_54 rfl (lv_at hl 3 rfl) ?_
        refine lv_iload hx hb dX6_areTight_55 (lv_at hl 4 rfl) ?_
        refine lv_iadd hx hb dX6_areTight_57 ?_
        refine lv_iconst (v := (1 : Int32)) hx hb dX6_areTight_58 (by decide) ?_
        refine lv_isub hx hb dX6_areTight_59 ?_
        refine lv_iload_n hx hb dX6_areTight_60 rfl (lv_at hl 3 rfl) ?_
        refine lv_iload hx hb dX6_areTight_61 (lv_at hl 4 rfl) ?_
        refine lv_iadd hx hb dX6_areTight_63 ?_
        obtain ⟨r4, hr4, hf⟩ := bd_use hf
        refine cl_S (wn := (wdX6_areTight G q0 q0_one q0_other q0_third q0_waysTo q0_poly q0_then q0_steps q0_sheet q0_next q0_wide q0_partOf q0_partTimes q0_foundAt r4 k0_isParted k0_parts k0_found)) (st1 := []) C hP hD hS (tX6_exchange l G q0_other k0_other ((x3 + x4) - (1 : Int32)) (x3 + x4) r4 hr4) (va_cwS 3 hts gX6_areTight_X6_exchange rfl rfl rfl (by decide +kernel) ⟨Nat.le_of_ble_eq_true rfl, Nat.le_of_ble_eq_true rfl⟩) [1] [0] [0, 1] rfl rfl rfl rfl (by decide) rfl rfl rfl hl.1 rfl rfl (Nat.le_of_ble_eq_true rfl) dX6_areTight_64 (fun H locs hP hD hS => ?_)
        obtain ⟨y5, ey5⟩ : ∃ z : Int32, z = x2 + (1 : Int32) := ⟨_, rfl⟩
        have hf := nm_use ey5 hf
        refine lv_iinc (v := y5) (lv' := [(2, .int y5), (0, .ref q0), (1, .int p1), (3, .int x3), (4, .int x4)]) hx hb dX6_areTight_67 hl (k := 2) rfl (by rw [ey5]; rfl) (by decide) rfl (fun ls hl => ?_)
        obtain ⟨y6, ey6⟩ : ∃ z : Int32, z = x4 + (-1 : Int32) := ⟨_, rfl⟩
        have hf := nm_use ey6 hf
        refine lv_iinc (v := y6) (lv' := [(4, .int y6), (2, .int y5), (0, .ref q0), (1, .int p1), (3, .int x3)]) hx hb dX6_areTight_70 hl (k := 4) rfl (by rw [ey6]; rfl) (by decide) rfl (fun ls hl => ?_)
        refine lv_goto (tgt := 35) hx hb dX6_areTight_73 (by decide) ?_
        exact ih r4 y5 x3 y6 _ _ ls hf hP hD hS (lv_sub hl [2, 3, 1, 4, 0] rfl)
set_option maxHeartbeats 4000000 in
set_option maxRecDepth 100000 in
theorem wX6_areTight_25 {p : Program} {l : Launch} {e : Env} {s : State} {m : MethodId} {args : Array Value} {below : List Frame} {meth : Method} {c : Code} {G : GX} {A : Nat → Prop} (C : Cx p s m args meth c cX6_areTight 5 (some .boolean) wsX6_areTight RX6 G A) (q0 : Nat) (q0_one : Nat) (q0_other : Nat) (q0_third : Nat) (q0_waysTo : Nat) (q0_poly : Nat) (q0_then : Nat) (q0_steps : Nat) (q0_sheet : Nat) (q0_next : Nat) (q0_wide : Nat) (q0_partOf : Nat) (q0_partTimes : Nat) (q0_foundAt : Nat) (k0_isParted : Int32) (k0_parts : Int32) (k0_found : Int32) (p1 : Int32) (res : Int32 × (Nat → Int32)) (n : Nat) : ∀ (k0_other : Nat → Int32) (x2 : Int32) (x3 : Int32) (H : Heap) (locs : List Loc) (ls : Array Slot), fX6_areTight_L25 p1 n k0_other x2 x3 = some res → va_P G.1 vwCl (wdX6_areTight G q0 q0_one q0_other q0_third q0_waysTo q0_poly q0_then q0_steps q0_sheet q0_next q0_wide q0_partOf q0_partTimes q0_foundAt k0_other k0_isParted k0_parts k0_found) H → va_D A (wdX6_areTight G q0 q0_one q0_other q0_third q0_waysTo q0_poly q0_then q0_steps q0_sheet q0_next q0_wide q0_partOf q0_partTimes q0_foundAt k0_other k0_isParted k0_parts k0_found) → va_S A s.heap H locs → lv_has ls 5 [(0, .ref q0), (1, .int p1), (2, .int x2), (3, .int x3)] → glX6_areTight p l e s m args below meth c G A q0 q0_one q0_other q0_third q0_waysTo q0_poly q0_then q0_steps q0_sheet q0_next q0_wide q0_partOf q0_partTimes q0_foundAt k0_isParted k0_parts k0_found res H locs 25 ls [] := by
  obtain ⟨hx, hb, hml, hown, hts, hr, hlocks, hA, hG⟩ := id C
  induction n with
  | zero => intro k0_other x2 x3 H locs ls hf hP hD hS hl; cases hf
  | succ n ih =>
    intro k0_other x2 x3 H locs ls hf hP hD hS hl
    simp only [fX6_areTight_L25] at hf
    refine lv_iload_n hx hb dX6_areTight_25 rfl (lv_at hl 3 rfl) ?_
    refine lv_iconst (v := (4 : Int32)) hx hb dX6_areTight_26 (by decide) ?_
    refine lv_icmp_gt (tgt := 82) hx hb dX6_areTight_27 (by decide) (fun hc => ?_) (fun hc => ?_)
    · have hf := if_t hc hf
      refine lv_aload_n hx hb dX6_areTight_82 rfl (lv_at hl 0 rfl) ?_
      refine va_get (D := G.1) (ci := 6) (v := .ref q0_other) (C := RX6) (T := TX6) (N := 16) hx hb hts nX6_areTight_X6 hown hG.1 hP 0 rfl rfl 1 (by decide) (hts _ mX6_areTight_0) (fun _ h9 => h9) rfl dX6_areTight_83 ?_
      obtain ⟨r7, hr7, hf⟩ := bd_use hf
      refine cl_S (wn := (wdX6_areTight G q0 q0_one q0_other q0_third q0_waysTo q0_poly q0_then q0_steps q0_sheet q0_next q0_wide q0_partOf q0_partTimes q0_foundAt k0_other k0_isParted k0_parts k0_found)) (st1 := [.int r7]) C hP hD hS (tX6_lengthOf l G q0_other k0_other r7 hr7) (va_cwS 1 hts gX6_areTight_X6_lengthOf rfl rfl rfl (by decide +kernel) ⟨Nat.le_of_ble_eq_true rfl, Nat.le_of_ble_eq_true rfl⟩) [1] [0] [0, 1] rfl rfl rfl rfl (by decide) rfl rfl rfl hl.1 rfl rfl (Nat.le_of_ble_eq_true rfl) dX6_areTight_86 (fun H locs hP hD hS => ?_)
      refine lv_iload_n hx hb dX6_areTight_89 rfl (lv_at hl 2 rfl) ?_
      refine lv_icmp_ne (tgt := 97) hx hb dX6_areTight_90 (by decide) (fun hc => ?_) (fun hc => ?_)
      · have hf := if_f hc hf
        refine lv_iconst (v := (0 : Int32)) hx hb dX6_areTight_97 (by decide) ?_
        cases hf
        exact rt_z C (Or.inl rfl) hP hD hS dX6_areTight_98
      · have hf := if_t hc hf
        refine lv_iconst (v := (1 : Int32)) hx hb dX6_areTight_93 (by decide) ?_
        refine lv_goto (tgt := 98) hx hb dX6_areTight_94 (by decide) ?_
        cases hf
        exact rt_z C (Or.inr rfl) hP hD hS dX6_areTight_98
    · have hf := if_f hc hf
      refine lv_iconst (v := (5 : Int32)) hx hb dX6_areTight_30 (by decide) ?_
      refine lv_iload_n hx hb dX6_areTight_31 rfl (lv_at hl 3 rfl) ?_
      refine lv_isub hx hb dX6_areTight_32 ?_
      refine lv_topi (fun y8 ey8 => ?_)
      have hf := nm_use ey8 hf
      refine lv_istore (lv' := [(4, .int y8), (0, .ref q0), (1, .int p1), (2, .int x2), (3, .int x3)]) hx hb dX6_areTight_33 hl (by decide) rfl (fun ls hl => ?_)
      exact wX6_areTight_35 C q0 q0_one q0_other q0_third q0_waysTo q0_poly q0_then q0_steps q0_sheet q0_next q0_wide q0_partOf q0_partTimes q0_foundAt k0_isParted k0_parts k0_found p1 res (fX6_areTight_L25 p1 n) ih fu k0_other x2 x3 y8 _ _ ls hf hP hD hS (lv_sub hl [1, 2, 3, 4, 0] rfl)
set_option maxHeartbeats 4000000 in
set_option maxRecDepth 100000 in
theorem wX6_areTight_4 {p : Program} {l : Launch} {e : Env} {s : State} {m : MethodId} {args : Array Value} {below : List Frame} {meth : Method} {c : Code} {G : GX} {A : Nat → Prop} (C : Cx p s m args meth c cX6_areTight 5 (some .boolean) wsX6_areTight RX6 G A) (q0 : Nat) (q0_one : Nat) (q0_other : Nat) (q0_third : Nat) (q0_waysTo : Nat) (q0_poly : Nat) (q0_then : Nat) (q0_steps : Nat) (q0_sheet : Nat) (q0_next : Nat) (q0_wide : Nat) (q0_partOf : Nat) (q0_partTimes : Nat) (q0_foundAt : Nat) (k0_isParted : Int32) (k0_parts : Int32) (k0_found : Int32) (p1 : Int32) (res : Int32 × (Nat → Int32)) (n : Nat) : ∀ (k0_other : Nat → Int32) (x2 : Int32) (x3 : Int32) (H : Heap) (locs : List Loc) (ls : Array Slot), fX6_areTight_L4 p1 n k0_other x2 x3 = some res → va_P G.1 vwCl (wdX6_areTight G q0 q0_one q0_other q0_third q0_waysTo q0_poly q0_then q0_steps q0_sheet q0_next q0_wide q0_partOf q0_partTimes q0_foundAt k0_other k0_isParted k0_parts k0_found) H → va_D A (wdX6_areTight G q0 q0_one q0_other q0_third q0_waysTo q0_poly q0_then q0_steps q0_sheet q0_next q0_wide q0_partOf q0_partTimes q0_foundAt k0_other k0_isParted k0_parts k0_found) → va_S A s.heap H locs → lv_has ls 5 [(0, .ref q0), (1, .int p1), (2, .int x2), (3, .int x3)] → glX6_areTight p l e s m args below meth c G A q0 q0_one q0_other q0_third q0_waysTo q0_poly q0_then q0_steps q0_sheet q0_next q0_wide q0_partOf q0_partTimes q0_foundAt k0_isParted k0_parts k0_found res H locs 4 ls [] := by
  obtain ⟨hx, hb, hml, hown, hts, hr, hlocks, hA, hG⟩ := id C
  induction n with
  | zero => intro k0_other x2 x3 H locs ls hf hP hD hS hl; cases hf
  | succ n ih =>
    intro k0_other x2 x3 H locs ls hf hP hD hS hl
    simp only [fX6_areTight_L4] at hf
    refine lv_iload_n hx hb dX6_areTight_4 rfl (lv_at hl 3 rfl) ?_
    refine lv_bipush (v := (9 : Int32)) hx hb dX6_areTight_5 (by decide) ?_
    refine lv_icmp_gt (tgt := 23) hx hb dX6_areTight_7 (by decide) (fun hc => ?_) (fun hc => ?_)
    · have hf := if_t hc hf
      refine lv_iconst (v := (1 : Int32)) hx hb dX6_areTight_23 (by decide) ?_
      refine lv_istore_n (lv' := [(3, .int (1 : Int32)), (0, .ref q0), (1, .int p1), (2, .int x2)]) hx hb dX6_areTight_24 rfl hl (by decide) rfl (fun ls hl => ?_)
      exact wX6_areTight_25 C q0 q0_one q0_other q0_third q0_waysTo q0_poly q0_then q0_steps q0_sheet q0_next q0_wide q0_partOf q0_partTimes q0_foundAt k0_isParted k0_parts k0_found p1 res fu k0_other x2 (1 : Int32) _ _ ls hf hP hD hS (lv_sub hl [1, 2, 3, 0] rfl)
    · have hf := if_f hc hf
      refine lv_aload_n hx hb dX6_areTight_10 rfl (lv_at hl 0 rfl) ?_
      refine va_get (D := G.1) (ci := 6) (v := .ref q0_other) (C := RX6) (T := TX6) (N := 16) hx hb hts nX6_areTight_X6 hown hG.1 hP 0 rfl rfl 1 (by decide) (hts _ mX6_areTight_0) (fun _ h9 => h9) rfl dX6_areTight_11 ?_
      refine lv_iload_n hx hb dX6_areTight_14 rfl (lv_at hl 3 rfl) ?_
      refine lv_iload_n hx hb dX6_areTight_15 rfl (lv_at hl 3 rfl) ?_
      obtain ⟨hin, hf⟩ := pI_use hf
      refine va_iast hx hb hG.1 hP hD hS 1 0 rfl rfl hin dX6_areTight_16 (fun H locs hP hD hS => ?_)
      have hP : va_P G.1 vwCl (wdX6_areTight G q0 q0_one q0_other q0_third q0_waysTo q0_poly q0_then q0_steps q0_sheet q0_next q0_wide q0_partOf q0_partTimes q0_foundAt (upd k0_other (x3).toNatClampNeg x3) k0_isParted k0_parts k0_found) H := hP
      have hD : va_D A (wdX6_areTight G q0 q0_one q0_other q0_third q0_waysTo q0_poly q0_then q0_steps q0_sheet q0_next q0_wide q0_partOf q0_partTimes q0_foundAt (upd k0_other (x3).toNatClampNeg x3) k0_isParted k0_parts k0_found) := hD
      obtain ⟨y10, ey10⟩ : ∃ z : Int32, z = x3 + (1 : Int32) := ⟨_, rfl⟩
      have hf := nm_use ey10 hf
      refine lv_iinc (v := y10) (lv' := [(3, .int y10), (0, .ref q0), (1, .int p1), (2, .int x2)]) hx hb dX6_areTight_17 hl (k := 3) rfl (by rw [ey10]; rfl) (by decide) rfl (fun ls hl => ?_)
      refine lv_goto (tgt := 4) hx hb dX6_areTight_20 (by decide) ?_
      exact ih (upd k0_other (x3).toNatClampNeg x3) x2 y10 _ _ ls hf hP hD hS (lv_sub hl [1, 2, 3, 0] rfl)
set_option maxHeartbeats 4000000 in
set_option maxRecDepth 100000 in
theorem tX6_areTight (l : Launch) (G : GX) (q0 : Nat) (q0_one : Nat) (q0_other : Nat) (q0_third : Nat) (q0_waysTo : Nat) (q0_poly : Nat) (q0_then : Nat) (q0_steps : Nat) (q0_sheet : Nat) (q0_next : Nat) (q0_wide : Nat) (q0_partOf : Nat) (q0_partTimes : Nat) (q0_foundAt : Nat) (k0_other : Nat → Int32) (k0_isParted : Int32) (k0_parts : Int32) (k0_found : Int32) (p1 : Int32) (res : Int32 × (Nat → Int32)) (hf : fX6_areTight k0_other p1 = some res) : Ct l yX6_areTight wsX6_areTight rmX6_areTight G [.ref q0, .int p1] (wdX6_areTight G q0 q0_one q0_other q0_third q0_waysTo q0_poly q0_then q0_steps q0_sheet q0_next q0_wide q0_partOf q0_partTimes q0_foundAt k0_other k0_isParted k0_parts k0_found) (wdX6_areTight G q0 q0_one q0_other q0_third q0_waysTo q0_poly q0_then q0_steps q0_sheet q0_next q0_wide q0_partOf q0_partTimes q0_foundAt res.2 k0_isParted k0_parts k0_found) (some (.int res.1)) := by
  refine Ct.of (cc := cX6_areTight) (nL := 5) (ret := (some .boolean)) (by decide) rfl (Nat.le_of_ble_eq_true rfl) rfl ?_
  intro p e s m below meth c A ls C hP hD hl
  obtain ⟨hx, hb, hml, hown, hts, hr, hlocks, hA, hG⟩ := id C
  have hS : va_S A s.heap s.heap [] := va_S.rf
  unfold fX6_areTight at hf
  refine lv_iconst (v := (0 : Int32)) hx hb dX6_areTight_0 (by decide) ?_
  refine lv_istore_n (lv' := [(2, .int (0 : Int32)), (0, .ref q0), (1, .int p1)]) hx hb dX6_areTight_1 rfl hl (by decide) rfl (fun ls hl => ?_)
  refine lv_iconst (v := (1 : Int32)) hx hb dX6_areTight_2 (by decide) ?_
  refine lv_istore_n (lv' := [(3, .int (1 : Int32)), (2, .int (0 : Int32)), (0, .ref q0), (1, .int p1)]) hx hb dX6_areTight_3 rfl hl (by decide) rfl (fun ls hl => ?_)
  exact wX6_areTight_4 C q0 q0_one q0_other q0_third q0_waysTo q0_poly q0_then q0_steps q0_sheet q0_next q0_wide q0_partOf q0_partTimes q0_foundAt k0_isParted k0_parts k0_found p1 res fu k0_other (0 : Int32) (1 : Int32) _ _ ls hf hP hD hS (lv_sub hl [2, 3, 1, 0] rfl)
abbrev wdX6_makes (G : GX) (q0 : Nat) (q0_one : Nat) (q0_other : Nat) (q0_third : Nat) (q0_waysTo : Nat) (q0_poly : Nat) (q0_then : Nat) (q0_steps : Nat) (q0_sheet : Nat) (q0_next : Nat) (q0_wide : Nat) (q0_partOf : Nat) (q0_partTimes : Nat) (q0_foundAt : Nat) (k0_other : Nat → Int32) (k0_isParted : Int32) (k0_parts : Int32) (k0_found : Int32) : va_W := [(q0, .inr (6, [.ref q0_one, .ref q0_other, .ref q0_third, .ref q0_waysTo, .ref q0_poly, .ref q0_then, .ref q0_steps, .ref q0_sheet, .ref q0_next, .int k0_isParted, .ref q0_wide, .int k0_parts, .ref q0_partOf, .ref q0_partTimes, .int k0_found, .ref q0_foundAt])), (q0_other, .inl (G.2.1, 10, .inl k0_other))]
abbrev rmX6_makes : Room := { frames := 4, cells := 0, slots := 0, locals := 89 }
abbrev glX6_makes (p : Program) (l : Launch) (e : Env) (s : State) (m : MethodId) (args : Array Value) (below : List Frame) (meth : Method) (c : Code) (G : GX) (A : Nat → Prop) (q0 : Nat) (q0_one : Nat) (q0_other : Nat) (q0_third : Nat) (q0_waysTo : Nat) (q0_poly : Nat) (q0_then : Nat) (q0_steps : Nat) (q0_sheet : Nat) (q0_next : Nat) (q0_wide : Nat) (q0_partOf : Nat) (q0_partTimes : Nat) (q0_foundAt : Nat) (k0_isParted : Int32) (k0_parts : Int32) (k0_found : Int32) (res : Int32 × (Nat → Int32)) (H : Heap) (locs : List Loc) (pc : Nat) (ls : Array Slot) (st : List Value) : Prop := W p l e rmX6_makes s m args below meth c H locs 0 0 (MQ below (ctQ G A (wdX6_makes G q0 q0_one q0_other q0_third q0_waysTo q0_poly q0_then q0_steps q0_sheet q0_next q0_wide q0_partOf q0_partTimes q0_foundAt res.2 k0_isParted k0_parts k0_found) (some (.int res.1))) args s 0 0 A) (F0 m pc ls st)
set_option maxRecDepth 20000 in
theorem mX6_makes_0 : Cond.fieldLink RX6 13 "SchubertDeskModel" "other" "[I" ∈ wsX6_makes := by decide +kernel
set_option maxRecDepth 20000 in
theorem nX6_makes_X6 : ∀ w ∈ u_ws RX6 TX6 16, w ∈ wsX6_makes := by decide +kernel
set_option maxHeartbeats 4000000 in
set_option maxRecDepth 100000 in
theorem tX6_makes (l : Launch) (G : GX) (q0 : Nat) (q0_one : Nat) (q0_other : Nat) (q0_third : Nat) (q0_waysTo : Nat) (q0_poly : Nat) (q0_then : Nat) (q0_steps : Nat) (q0_sheet : Nat) (q0_next : Nat) (q0_wide : Nat) (q0_partOf : Nat) (q0_partTimes : Nat) (q0_foundAt : Nat) (k0_other : Nat → Int32) (k0_isParted : Int32) (k0_parts : Int32) (k0_found : Int32) (p1 : Int32) (res : Int32 × (Nat → Int32)) (hf : fX6_makes k0_other p1 = some res) : Ct l yX6_makes wsX6_makes rmX6_makes G [.ref q0, .int p1] (wdX6_makes G q0 q0_one q0_other q0_third q0_waysTo q0_poly q0_then q0_steps q0_sheet q0_next q0_wide q0_partOf q0_partTimes q0_foundAt k0_other k0_isParted k0_parts k0_found) (wdX6_makes G q0 q0_one q0_other q0_third q0_waysTo q0_poly q0_then q0_steps q0_sheet q0_next q0_wide q0_partOf q0_partTimes q0_foundAt res.2 k0_isParted k0_parts k0_found) (some (.int res.1)) := by
  refine Ct.of (cc := cX6_makes) (nL := 2) (ret := (some .int)) (by decide) rfl (Nat.le_of_ble_eq_true rfl) rfl ?_
  intro p e s m below meth c A ls C hP hD hl
  obtain ⟨hx, hb, hml, hown, hts, hr, hlocks, hA, hG⟩ := id C
  have hS : va_S A s.heap s.heap [] := va_S.rf
  unfold fX6_makes at hf
  refine lv_iload_n hx hb dX6_makes_0 rfl (lv_at hl 1 rfl) ?_
  refine lv_iconst (v := (0 : Int32)) hx hb dX6_makes_1 (by decide) ?_
  refine lv_sipush (v := (1023 : Int32)) hx hb dX6_makes_2 (by decide) ?_
  obtain ⟨r1, hr1, hf⟩ := bd_use hf
  refine cl_S (wn := (wdX6_makes G q0 q0_one q0_other q0_third q0_waysTo q0_poly q0_then q0_steps q0_sheet q0_next q0_wide q0_partOf q0_partTimes q0_foundAt k0_other k0_isParted k0_parts k0_found)) (st1 := [.int r1]) C hP hD hS (tX6_within l G p1 (0 : Int32) (1023 : Int32) r1 hr1) (va_cwS 3 hts gX6_makes_X6_within rfl rfl rfl (by decide +kernel) ⟨Nat.le_of_ble_eq_true rfl, Nat.le_of_ble_eq_true rfl⟩) [] [0, 1] [0, 1] rfl rfl rfl rfl (by decide) rfl rfl rfl hl.1 rfl rfl (Nat.le_of_ble_eq_true rfl) dX6_makes_5 (fun H locs hP hD hS => ?_)
  refine lv_if_ne (tgt := 14) hx hb dX6_makes_8 (by decide) (fun hc => ?_) (fun hc => ?_)
  · have hf := if_f hc hf
    refine lv_aload_n hx hb dX6_makes_14 rfl (lv_at hl 0 rfl) ?_
    refine lv_iload_n hx hb dX6_makes_15 rfl (lv_at hl 1 rfl) ?_
    obtain ⟨r2, hr2, hf⟩ := bd_use hf
    refine cl_V (wn := (wdX6_makes G q0 q0_one q0_other q0_third q0_waysTo q0_poly q0_then q0_steps q0_sheet q0_next q0_wide q0_partOf q0_partTimes q0_foundAt r2.2 k0_isParted k0_parts k0_found)) (st1 := [.int r2.1]) C hP hD hS (tX6_areTight l G q0 q0_one q0_other q0_third q0_waysTo q0_poly q0_then q0_steps q0_sheet q0_next q0_wide q0_partOf q0_partTimes q0_foundAt k0_other k0_isParted k0_parts k0_found p1 r2 hr2) (cwV 1 hts gX6_makes_X6_areTight rfl rfl rfl (by decide +kernel) ⟨Nat.le_of_ble_eq_true rfl, Nat.le_of_ble_eq_true rfl⟩) [0, 1] [] [0, 1] rfl rfl rfl rfl (by decide) rfl rfl (ci := 6) (q0 := 0) rfl rfl rfl rfl hl.1 rfl rfl (Nat.le_of_ble_eq_true rfl) dX6_makes_16 (fun H locs hP hD hS => ?_)
    refine lv_if_eq (tgt := 32) hx hb dX6_makes_19 (by decide) (fun hc => ?_) (fun hc => ?_)
    · have hf := if_t hc hf
      refine lv_bipush (v := (-9 : Int32)) hx hb dX6_makes_32 (by decide) ?_
      cases hf
      exact rt_i C hP hD hS dX6_makes_34
    · have hf := if_f hc hf
      refine lv_aload_n hx hb dX6_makes_22 rfl (lv_at hl 0 rfl) ?_
      refine va_get (D := G.1) (ci := 6) (v := .ref q0_other) (C := RX6) (T := TX6) (N := 16) hx hb hts nX6_makes_X6 hown hG.1 hP 0 rfl rfl 1 (by decide) (hts _ mX6_makes_0) (fun _ h9 => h9) rfl dX6_makes_23 ?_
      obtain ⟨r3, hr3, hf⟩ := bd_use hf
      refine cl_S (wn := (wdX6_makes G q0 q0_one q0_other q0_third q0_waysTo q0_poly q0_then q0_steps q0_sheet q0_next q0_wide q0_partOf q0_partTimes q0_foundAt r2.2 k0_isParted k0_parts k0_found)) (st1 := [.int r3]) C hP hD hS (tX6_plainOf l G q0_other r2.2 r3 hr3) (va_cwS 1 hts gX6_makes_X6_plainOf rfl rfl rfl (by decide +kernel) ⟨Nat.le_of_ble_eq_true rfl, Nat.le_of_ble_eq_true rfl⟩) [1] [0] [0, 1] rfl rfl rfl rfl (by decide) rfl rfl rfl hl.1 rfl rfl (Nat.le_of_ble_eq_true rfl) dX6_makes_26 (fun H locs hP hD hS => ?_)
      refine lv_goto (tgt := 34) hx hb dX6_makes_29 (by decide) ?_
      cases hf
      exact rt_i C hP hD hS dX6_makes_34
  · have hf := if_t hc hf
    refine lv_bipush (v := (-2 : Int32)) hx hb dX6_makes_11 (by decide) ?_
    cases hf
    exact rt_i C hP hD hS dX6_makes_13
abbrev wdX6_dream (G : GX) (q0 : Nat) (q0_one : Nat) (q0_other : Nat) (q0_third : Nat) (q0_waysTo : Nat) (q0_poly : Nat) (q0_then : Nat) (q0_steps : Nat) (q0_sheet : Nat) (q0_next : Nat) (q0_wide : Nat) (q0_partOf : Nat) (q0_partTimes : Nat) (q0_foundAt : Nat) (k0_one : Nat → Int32) (k0_other : Nat → Int32) (k0_isParted : Int32) (k0_parts : Int32) (k0_found : Int32) : va_W := [(q0, .inr (6, [.ref q0_one, .ref q0_other, .ref q0_third, .ref q0_waysTo, .ref q0_poly, .ref q0_then, .ref q0_steps, .ref q0_sheet, .ref q0_next, .int k0_isParted, .ref q0_wide, .int k0_parts, .ref q0_partOf, .ref q0_partTimes, .int k0_found, .ref q0_foundAt])), (q0_one, .inl (G.2.1, 10, .inl k0_one)), (q0_other, .inl (G.2.1, 10, .inl k0_other))]
abbrev rmX6_dream : Room := { frames := 4, cells := 0, slots := 0, locals := 89 }
abbrev glX6_dream (p : Program) (l : Launch) (e : Env) (s : State) (m : MethodId) (args : Array Value) (below : List Frame) (meth : Method) (c : Code) (G : GX) (A : Nat → Prop) (q0 : Nat) (q0_one : Nat) (q0_other : Nat) (q0_third : Nat) (q0_waysTo : Nat) (q0_poly : Nat) (q0_then : Nat) (q0_steps : Nat) (q0_sheet : Nat) (q0_next : Nat) (q0_wide : Nat) (q0_partOf : Nat) (q0_partTimes : Nat) (q0_foundAt : Nat) (k0_isParted : Int32) (k0_parts : Int32) (k0_found : Int32) (res : Int32 × (Nat → Int32) × (Nat → Int32)) (H : Heap) (locs : List Loc) (pc : Nat) (ls : Array Slot) (st : List Value) : Prop := W p l e rmX6_dream s m args below meth c H locs 0 0 (MQ below (ctQ G A (wdX6_dream G q0 q0_one q0_other q0_third q0_waysTo q0_poly q0_then q0_steps q0_sheet q0_next q0_wide q0_partOf q0_partTimes q0_foundAt res.2.1 res.2.2 k0_isParted k0_parts k0_found) (some (.int res.1))) args s 0 0 A) (F0 m pc ls st)
set_option maxRecDepth 20000 in
theorem mX6_dream_0 : Cond.fieldLink RX6 13 "SchubertDeskModel" "other" "[I" ∈ wsX6_dream := by decide +kernel
set_option maxRecDepth 20000 in
theorem mX6_dream_1 : Cond.fieldLink RX6 7 "SchubertDeskModel" "one" "[I" ∈ wsX6_dream := by decide +kernel
set_option maxRecDepth 20000 in
theorem nX6_dream_X6 : ∀ w ∈ u_ws RX6 TX6 16, w ∈ wsX6_dream := by decide +kernel
set_option maxHeartbeats 4000000 in
set_option maxRecDepth 100000 in
theorem wX6_dream_46 {p : Program} {l : Launch} {e : Env} {s : State} {m : MethodId} {args : Array Value} {below : List Frame} {meth : Method} {c : Code} {G : GX} {A : Nat → Prop} (C : Cx p s m args meth c cX6_dream 6 (some .int) wsX6_dream RX6 G A) (q0 : Nat) (q0_one : Nat) (q0_other : Nat) (q0_third : Nat) (q0_waysTo : Nat) (q0_poly : Nat) (q0_then : Nat) (q0_steps : Nat) (q0_sheet : Nat) (q0_next : Nat) (q0_wide : Nat) (q0_partOf : Nat) (q0_partTimes : Nat) (q0_foundAt : Nat) (k0_isParted : Int32) (k0_parts : Int32) (k0_found : Int32) (p1 : Int32) (p2 : Int32) (res : Int32 × (Nat → Int32) × (Nat → Int32)) (n : Nat) : ∀ (k0_one : Nat → Int32) (k0_other : Nat → Int32) (x3 : Int32) (x4 : Int32) (x5 : Int32) (H : Heap) (locs : List Loc) (ls : Array Slot), fX6_dream_L46 p1 p2 n k0_one k0_other x3 x4 x5 = some res → va_P G.1 vwCl (wdX6_dream G q0 q0_one q0_other q0_third q0_waysTo q0_poly q0_then q0_steps q0_sheet q0_next q0_wide q0_partOf q0_partTimes q0_foundAt k0_one k0_other k0_isParted k0_parts k0_found) H → va_D A (wdX6_dream G q0 q0_one q0_other q0_third q0_waysTo q0_poly q0_then q0_steps q0_sheet q0_next q0_wide q0_partOf q0_partTimes q0_foundAt k0_one k0_other k0_isParted k0_parts k0_found) → va_S A s.heap H locs → lv_has ls 6 [(0, .ref q0), (2, .int p2), (3, .int x3), (4, .int x4), (5, .int x5)] → glX6_dream p l e s m args below meth c G A q0 q0_one q0_other q0_third q0_waysTo q0_poly q0_then q0_steps q0_sheet q0_next q0_wide q0_partOf q0_partTimes q0_foundAt k0_isParted k0_parts k0_found res H locs 46 ls [] := by
  obtain ⟨hx, hb, hml, hown, hts, hr, hlocks, hA, hG⟩ := id C
  induction n with
  | zero => intro k0_one k0_other x3 x4 x5 H locs ls hf hP hD hS hl; cases hf
  | succ n ih =>
    intro k0_one k0_other x3 x4 x5 H locs ls hf hP hD hS hl
    simp only [fX6_dream_L46] at hf
    refine lv_iload hx hb dX6_dream_46 (lv_at hl 4 rfl) ?_
    refine lv_sipush (v := (1023 : Int32)) hx hb dX6_dream_48 (by decide) ?_
    refine lv_icmp_gt (tgt := 92) hx hb dX6_dream_51 (by decide) (fun hc => ?_) (fun hc => ?_)
    · have hf := if_t hc hf
      refine lv_iload_n hx hb dX6_dream_92 rfl (lv_at hl 1 rfl) ?_
      refine lv_iconst (v := (-1 : Int32)) hx hb dX6_dream_93 (by decide) ?_
      refine lv_icmp_ne (tgt := 102) hx hb dX6_dream_94 (by decide) (fun hc => ?_) (fun hc => ?_)
      · have hf := if_f hc hf
        refine lv_bipush (v := (-9 : Int32)) hx hb dX6_dream_102 (by decide) ?_
        cases hf
        exact rt_i C hP hD hS dX6_dream_104
      · have hf := if_t hc hf
        refine lv_iload hx hb dX6_dream_97 (lv_at hl 3 rfl) ?_
        refine lv_goto (tgt := 104) hx hb dX6_dream_99 (by decide) ?_
        cases hf
        exact rt_i C hP hD hS dX6_dream_104
    · have hf := if_f hc hf
      refine lv_aload_n hx hb dX6_dream_54 rfl (lv_at hl 0 rfl) ?_
      refine lv_iload hx hb dX6_dream_55 (lv_at hl 4 rfl) ?_
      obtain ⟨r1, hr1, hf⟩ := bd_use hf
      refine cl_V (wn := (wdX6_dream G q0 q0_one q0_other q0_third q0_waysTo q0_poly q0_then q0_steps q0_sheet q0_next q0_wide q0_partOf q0_partTimes q0_foundAt k0_one r1.2 k0_isParted k0_parts k0_found)) (st1 := [.int r1.1]) C hP hD hS (tX6_areTight l G q0 q0_one q0_other q0_third q0_waysTo q0_poly q0_then q0_steps q0_sheet q0_next q0_wide q0_partOf q0_partTimes q0_foundAt k0_other k0_isParted k0_parts k0_found x5 r1 hr1) (cwV 1 hts gX6_dream_X6_areTight rfl rfl rfl (by decide +kernel) ⟨Nat.le_of_ble_eq_true rfl, Nat.le_of_ble_eq_true rfl⟩) [0, 2] [1] [1, 0, 2] rfl rfl rfl rfl (by decide) rfl rfl (ci := 6) (q0 := 0) rfl rfl rfl rfl hl.1 rfl rfl (Nat.le_of_ble_eq_true rfl) dX6_dream_57 (fun H locs hP hD hS => ?_)
      refine lv_if_eq (tgt := 86) hx hb dX6_dream_60 (by decide) (fun hc => ?_) (fun hc => ?_)
      · have hf := if_t hc hf
        obtain ⟨y2, ey2⟩ : ∃ z : Int32, z = x5 + (1 : Int32) := ⟨_, rfl⟩
        have hf := nm_use ey2 hf
        refine lv_iinc (v := y2) (lv' := [(5, .int y2), (0, .ref q0), (2, .int p2), (3, .int x3), (4, .int x4)]) hx hb dX6_dream_86 hl (k := 4) rfl (by rw [ey2]; rfl) (by decide) rfl (fun ls hl => ?_)
        refine lv_goto (tgt := 46) hx hb dX6_dream_89 (by decide) ?_
        exact ih k0_one r1.2 x3 x4 y2 _ _ ls hf hP hD hS (lv_sub hl [1, 2, 3, 4, 0] rfl)
      · have hf := if_f hc hf
        refine lv_aload_n hx hb dX6_dream_63 rfl (lv_at hl 0 rfl) ?_
        refine va_get (D := G.1) (ci := 6) (v := .ref q0_other) (C := RX6) (T := TX6) (N := 16) hx hb hts nX6_dream_X6 hown hG.1 hP 0 rfl rfl 1 (by decide) (hts _ mX6_dream_0) (fun _ h9 => h9) rfl dX6_dream_64 ?_
        obtain ⟨r3, hr3, hf⟩ := bd_use hf
        refine cl_S (wn := (wdX6_dream G q0 q0_one q0_other q0_third q0_waysTo q0_poly q0_then q0_steps q0_sheet q0_next q0_wide q0_partOf q0_partTimes q0_foundAt k0_one r1.2 k0_isParted k0_parts k0_found)) (st1 := [.int r3]) C hP hD hS (tX6_plainOf l G q0_other r1.2 r3 hr3) (va_cwS 1 hts gX6_dream_X6_plainOf rfl rfl rfl (by decide +kernel) ⟨Nat.le_of_ble_eq_true rfl, Nat.le_of_ble_eq_true rfl⟩) [2] [0, 1] [0, 1, 2] rfl rfl rfl rfl (by decide) rfl rfl rfl hl.1 rfl rfl (Nat.le_of_ble_eq_true rfl) dX6_dream_67 (fun H locs hP hD hS => ?_)
        refine lv_iload_n hx hb dX6_dream_70 rfl (lv_at hl 2 rfl) ?_
        refine lv_icmp_ne (tgt := 86) hx hb dX6_dream_71 (by decide) (fun hc => ?_) (fun hc => ?_)
        · have hf := if_f hc hf
          obtain ⟨y4, ey4⟩ : ∃ z : Int32, z = x5 + (1 : Int32) := ⟨_, rfl⟩
          have hf := nm_use ey4 hf
          refine lv_iinc (v := y4) (lv' := [(5, .int y4), (0, .ref q0), (2, .int p2), (3, .int x3), (4, .int x4)]) hx hb dX6_dream_86 hl (k := 4) rfl (by rw [ey4]; rfl) (by decide) rfl (fun ls hl => ?_)
          refine lv_goto (tgt := 46) hx hb dX6_dream_89 (by decide) ?_
          exact ih k0_one r1.2 x3 x4 y4 _ _ ls hf hP hD hS (lv_sub hl [1, 2, 3, 4, 0] rfl)
        · have hf := if_t hc hf
          refine lv_iload hx hb dX6_dream_74 (lv_at hl 3 rfl) ?_
          refine lv_iload_n hx hb dX6_dream_76 rfl (lv_at hl 1 rfl) ?_
          refine lv_icmp_ne (tgt := 83) hx hb dX6_dream_77 (by decide) (fun hc => ?_) (fun hc => ?_)
          · have hf := if_f hc hf
            obtain ⟨y5, ey5⟩ : ∃ z : Int32, z = x4 + (1 : Int32) := ⟨_, rfl⟩
            have hf := nm_use ey5 hf
            refine lv_iinc (v := y5) (lv' := [(4, .int y5), (0, .ref q0), (2, .int p2), (3, .int x3), (5, .int x5)]) hx hb dX6_dream_83 hl (k := 3) rfl (by rw [ey5]; rfl) (by decide) rfl (fun ls hl => ?_)
            obtain ⟨y6, ey6⟩ : ∃ z : Int32, z = x5 + (1 : Int32) := ⟨_, rfl⟩
            have hf := nm_use ey6 hf
            refine lv_iinc (v := y6) (lv' := [(5, .int y6), (4, .int y5), (0, .ref q0), (2, .int p2), (3, .int x3)]) hx hb dX6_dream_86 hl (k := 4) rfl (by rw [ey6]; rfl) (by decide) rfl (fun ls hl => ?_)
            refine lv_goto (tgt := 46) hx hb dX6_dream_89 (by decide) ?_
            exact ih k0_one r1.2 x3 y5 y6 _ _ ls hf hP hD hS (lv_sub hl [2, 3, 4, 1, 0] rfl)
          · have hf := if_t hc hf
            refine lv_iload hx hb dX6_dream_80 (lv_at hl 4 rfl) ?_
            cases hf
            exact rt_i C hP hD hS dX6_dream_82
set_option maxHeartbeats 4000000 in
set_option maxRecDepth 100000 in
theorem tX6_dream (l : Launch) (G : GX) (q0 : Nat) (q0_one : Nat) (q0_other : Nat) (q0_third : Nat) (q0_waysTo : Nat) (q0_poly : Nat) (q0_then : Nat) (q0_steps : Nat) (q0_sheet : Nat) (q0_next : Nat) (q0_wide : Nat) (q0_partOf : Nat) (q0_partTimes : Nat) (q0_foundAt : Nat) (k0_one : Nat → Int32) (k0_other : Nat → Int32) (k0_isParted : Int32) (k0_parts : Int32) (k0_found : Int32) (p1 : Int32) (p2 : Int32) (res : Int32 × (Nat → Int32) × (Nat → Int32)) (hf : fX6_dream k0_one k0_other p1 p2 = some res) : Ct l yX6_dream wsX6_dream rmX6_dream G [.ref q0, .int p1, .int p2] (wdX6_dream G q0 q0_one q0_other q0_third q0_waysTo q0_poly q0_then q0_steps q0_sheet q0_next q0_wide q0_partOf q0_partTimes q0_foundAt k0_one k0_other k0_isParted k0_parts k0_found) (wdX6_dream G q0 q0_one q0_other q0_third q0_waysTo q0_poly q0_then q0_steps q0_sheet q0_next q0_wide q0_partOf q0_partTimes q0_foundAt res.2.1 res.2.2 k0_isParted k0_parts k0_found) (some (.int res.1)) := by
  refine Ct.of (cc := cX6_dream) (nL := 6) (ret := (some .int)) (by decide) rfl (Nat.le_of_ble_eq_true rfl) rfl ?_
  intro p e s m below meth c A ls C hP hD hl
  obtain ⟨hx, hb, hml, hown, hts, hr, hlocks, hA, hG⟩ := id C
  have hS : va_S A s.heap s.heap [] := va_S.rf
  unfold fX6_dream at hf
  refine lv_iload_n hx hb dX6_dream_0 rfl (lv_at hl 1 rfl) ?_
  refine lv_aload_n hx hb dX6_dream_1 rfl (lv_at hl 0 rfl) ?_
  refine va_get (D := G.1) (ci := 6) (v := .ref q0_one) (C := RX6) (T := TX6) (N := 16) hx hb hts nX6_dream_X6 hown hG.1 hP 0 rfl rfl 0 (by decide) (hts _ mX6_dream_1) (fun _ h9 => h9) rfl dX6_dream_2 ?_
  obtain ⟨r7, hr7, hf⟩ := bd_use hf
  refine cl_S (wn := (wdX6_dream G q0 q0_one q0_other q0_third q0_waysTo q0_poly q0_then q0_steps q0_sheet q0_next q0_wide q0_partOf q0_partTimes q0_foundAt r7.2 k0_other k0_isParted k0_parts k0_found)) (st1 := [.int r7.1]) C hP hD hS (tX6_lays l G q0_one k0_one p1 r7 hr7) (va_cwS 2 hts gX6_dream_X6_lays rfl rfl rfl (by decide +kernel) ⟨Nat.le_of_ble_eq_true rfl, Nat.le_of_ble_eq_true rfl⟩) [1] [0, 2] [0, 2, 1] rfl rfl rfl rfl (by decide) rfl rfl rfl hl.1 rfl rfl (Nat.le_of_ble_eq_true rfl) dX6_dream_5 (fun H locs hP hD hS => ?_)
  refine lv_if_eq (tgt := 16) hx hb dX6_dream_8 (by decide) (fun hc => ?_) (fun hc => ?_)
  · have hf := if_t hc hf
    refine lv_bipush (v := (-2 : Int32)) hx hb dX6_dream_16 (by decide) ?_
    cases hf
    exact rt_i C hP hD hS dX6_dream_18
  · have hf := if_f hc hf
    refine lv_iload_n hx hb dX6_dream_11 rfl (lv_at hl 2 rfl) ?_
    refine lv_iconst (v := (-1 : Int32)) hx hb dX6_dream_12 (by decide) ?_
    refine lv_icmp_ge (tgt := 19) hx hb dX6_dream_13 (by decide) (fun hc => ?_) (fun hc => ?_)
    · have hf := if_t hc hf
      refine lv_aload_n hx hb dX6_dream_19 rfl (lv_at hl 0 rfl) ?_
      refine va_get (D := G.1) (ci := 6) (v := .ref q0_one) (C := RX6) (T := TX6) (N := 16) hx hb hts nX6_dream_X6 hown hG.1 hP 0 rfl rfl 0 (by decide) (hts _ mX6_dream_1) (fun _ h9 => h9) rfl dX6_dream_20 ?_
      obtain ⟨r8, hr8, hf⟩ := bd_use hf
      refine cl_S (wn := (wdX6_dream G q0 q0_one q0_other q0_third q0_waysTo q0_poly q0_then q0_steps q0_sheet q0_next q0_wide q0_partOf q0_partTimes q0_foundAt r7.2 k0_other k0_isParted k0_parts k0_found)) (st1 := [.int r8]) C hP hD hS (tX6_isSmall l G q0_one r7.2 r8 hr8) (va_cwS 1 hts gX6_dream_X6_isSmall rfl rfl rfl (by decide +kernel) ⟨Nat.le_of_ble_eq_true rfl, Nat.le_of_ble_eq_true rfl⟩) [1] [0, 2] [0, 2, 1] rfl rfl rfl rfl (by decide) rfl rfl rfl hl.1 rfl rfl (Nat.le_of_ble_eq_true rfl) dX6_dream_23 (fun H locs hP hD hS => ?_)
      refine lv_if_ne (tgt := 32) hx hb dX6_dream_26 (by decide) (fun hc => ?_) (fun hc => ?_)
      · have hf := if_f hc hf
        refine lv_aload_n hx hb dX6_dream_32 rfl (lv_at hl 0 rfl) ?_
        refine va_get (D := G.1) (ci := 6) (v := .ref q0_one) (C := RX6) (T := TX6) (N := 16) hx hb hts nX6_dream_X6 hown hG.1 hP 0 rfl rfl 0 (by decide) (hts _ mX6_dream_1) (fun _ h9 => h9) rfl dX6_dream_33 ?_
        obtain ⟨r9, hr9, hf⟩ := bd_use hf
        refine cl_S (wn := (wdX6_dream G q0 q0_one q0_other q0_third q0_waysTo q0_poly q0_then q0_steps q0_sheet q0_next q0_wide q0_partOf q0_partTimes q0_foundAt r7.2 k0_other k0_isParted k0_parts k0_found)) (st1 := [.int r9]) C hP hD hS (tX6_plainOf l G q0_one r7.2 r9 hr9) (va_cwS 1 hts gX6_dream_X6_plainOf rfl rfl rfl (by decide +kernel) ⟨Nat.le_of_ble_eq_true rfl, Nat.le_of_ble_eq_true rfl⟩) [1] [0, 2] [0, 2, 1] rfl rfl rfl rfl (by decide) rfl rfl rfl hl.1 rfl rfl (Nat.le_of_ble_eq_true rfl) dX6_dream_36 (fun H locs hP hD hS => ?_)
        refine lv_istore_n (lv' := [(3, .int r9), (0, .ref q0), (1, .int p1), (2, .int p2)]) hx hb dX6_dream_39 rfl hl (by decide) rfl (fun ls hl => ?_)
        refine lv_iconst (v := (0 : Int32)) hx hb dX6_dream_40 (by decide) ?_
        refine lv_istore (lv' := [(4, .int (0 : Int32)), (3, .int r9), (0, .ref q0), (1, .int p1), (2, .int p2)]) hx hb dX6_dream_41 hl (by decide) rfl (fun ls hl => ?_)
        refine lv_iconst (v := (0 : Int32)) hx hb dX6_dream_43 (by decide) ?_
        refine lv_istore (lv' := [(5, .int (0 : Int32)), (4, .int (0 : Int32)), (3, .int r9), (0, .ref q0), (1, .int p1), (2, .int p2)]) hx hb dX6_dream_44 hl (by decide) rfl (fun ls hl => ?_)
        exact wX6_dream_46 C q0 q0_one q0_other q0_third q0_waysTo q0_poly q0_then q0_steps q0_sheet q0_next q0_wide q0_partOf q0_partTimes q0_foundAt k0_isParted k0_parts k0_found p1 p2 res fu r7.2 k0_other r9 (0 : Int32) (0 : Int32) _ _ ls hf hP hD hS (lv_sub hl [3, 5, 2, 1, 0] rfl)
      · have hf := if_t hc hf
        refine lv_bipush (v := (-3 : Int32)) hx hb dX6_dream_29 (by decide) ?_
        cases hf
        exact rt_i C hP hD hS dX6_dream_31
    · have hf := if_f hc hf
      refine lv_bipush (v := (-2 : Int32)) hx hb dX6_dream_16 (by decide) ?_
      cases hf
      exact rt_i C hP hD hS dX6_dream_18
