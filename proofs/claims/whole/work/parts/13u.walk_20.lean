abbrev wdX6_avoids (G : GX) (q0 : Nat) (q0_one : Nat) (q0_other : Nat) (q0_third : Nat) (q0_waysTo : Nat) (q0_poly : Nat) (q0_then : Nat) (q0_steps : Nat) (q0_sheet : Nat) (q0_next : Nat) (q0_wide : Nat) (q0_partOf : Nat) (q0_partTimes : Nat) (q0_foundAt : Nat) (k0_one : Nat → Int32) (k0_isParted : Int32) (k0_parts : Int32) (k0_found : Int32) : va_W := [(q0, .inr (6, [.ref q0_one, .ref q0_other, .ref q0_third, .ref q0_waysTo, .ref q0_poly, .ref q0_then, .ref q0_steps, .ref q0_sheet, .ref q0_next, .int k0_isParted, .ref q0_wide, .int k0_parts, .ref q0_partOf, .ref q0_partTimes, .int k0_found, .ref q0_foundAt])), (q0_one, .inl (G.2.1, 10, .inl k0_one))]
abbrev rmX6_avoids : Room := { frames := 2, cells := 0, slots := 0, locals := 48 }
abbrev glX6_avoids (p : Program) (l : Launch) (e : Env) (s : State) (m : MethodId) (args : Array Value) (below : List Frame) (meth : Method) (c : Code) (G : GX) (A : Nat → Prop) (q0 : Nat) (q0_one : Nat) (q0_other : Nat) (q0_third : Nat) (q0_waysTo : Nat) (q0_poly : Nat) (q0_then : Nat) (q0_steps : Nat) (q0_sheet : Nat) (q0_next : Nat) (q0_wide : Nat) (q0_partOf : Nat) (q0_partTimes : Nat) (q0_foundAt : Nat) (k0_isParted : Int32) (k0_parts : Int32) (k0_found : Int32) (res : Int32 × (Nat → Int32)) (H : Heap) (locs : List Loc) (pc : Nat) (ls : Array Slot) (st : List Value) : Prop := W p l e rmX6_avoids s m args below meth c H locs 0 0 (MQ below (ctQ G A (wdX6_avoids G q0 q0_one q0_other q0_third q0_waysTo q0_poly q0_then q0_steps q0_sheet q0_next q0_wide q0_partOf q0_partTimes q0_foundAt res.2 k0_isParted k0_parts k0_found) (some (.int res.1))) args s 0 0 A) (F0 m pc ls st)
set_option maxRecDepth 20000 in
theorem mX6_avoids_0 : Cond.fieldLink RX6 7 "SchubertDeskModel" "one" "[I" ∈ wsX6_avoids := by decide +kernel
set_option maxRecDepth 20000 in
theorem nX6_avoids_X6 : ∀ w ∈ u_ws RX6 TX6 16, w ∈ wsX6_avoids := by decide +kernel
set_option maxHeartbeats 4000000 in
set_option maxRecDepth 100000 in
theorem wX6_avoids_45 {p : Program} {l : Launch} {e : Env} {s : State} {m : MethodId} {args : Array Value} {below : List Frame} {meth : Method} {c : Code} {G : GX} {A : Nat → Prop} (C : Cx p s m args meth c cX6_avoids 4 (some .int) wsX6_avoids RX6 G A) (q0 : Nat) (q0_one : Nat) (q0_other : Nat) (q0_third : Nat) (q0_waysTo : Nat) (q0_poly : Nat) (q0_then : Nat) (q0_steps : Nat) (q0_sheet : Nat) (q0_next : Nat) (q0_wide : Nat) (q0_partOf : Nat) (q0_partTimes : Nat) (q0_foundAt : Nat) (k0_isParted : Int32) (k0_parts : Int32) (k0_found : Int32) (p1 : Int32) (p2 : Int32) (res : Int32 × (Nat → Int32)) : ∀ (k0_one : Nat → Int32) (s0 : Int32) (H : Heap) (locs : List Loc) (ls : Array Slot), fX6_avoids_b45 p1 p2 k0_one s0 = some res → va_P G.1 vwCl (wdX6_avoids G q0 q0_one q0_other q0_third q0_waysTo q0_poly q0_then q0_steps q0_sheet q0_next q0_wide q0_partOf q0_partTimes q0_foundAt k0_one k0_isParted k0_parts k0_found) H → va_D A (wdX6_avoids G q0 q0_one q0_other q0_third q0_waysTo q0_poly q0_then q0_steps q0_sheet q0_next q0_wide q0_partOf q0_partTimes q0_foundAt k0_one k0_isParted k0_parts k0_found) → va_S A s.heap H locs → lv_has ls 4 [] → glX6_avoids p l e s m args below meth c G A q0 q0_one q0_other q0_third q0_waysTo q0_poly q0_then q0_steps q0_sheet q0_next q0_wide q0_partOf q0_partTimes q0_foundAt k0_isParted k0_parts k0_found res H locs 45 ls [.int s0] := by
  obtain ⟨hx, hb, hml, hown, hts, hr, hlocks, hA, hG⟩ := id C
  intro k0_one s0 H locs ls hf hP hD hS hl
  unfold fX6_avoids_b45 at hf
  refine lv_istore_n (lv' := [(3, .int s0)]) hx hb dX6_avoids_45 rfl hl (by decide) rfl (fun ls hl => ?_)
  refine lv_iload_n hx hb dX6_avoids_46 rfl (lv_at hl 0 rfl) ?_
  refine lv_if_eq (tgt := 54) hx hb dX6_avoids_47 (by decide) (fun hc => ?_) (fun hc => ?_)
  · have hf := if_t hc hf
    refine lv_iconst (v := (1 : Int32)) hx hb dX6_avoids_54 (by decide) ?_
    cases hf
    exact rt_i C hP hD hS dX6_avoids_55
  · have hf := if_f hc hf
    refine lv_iconst (v := (0 : Int32)) hx hb dX6_avoids_50 (by decide) ?_
    refine lv_goto (tgt := 55) hx hb dX6_avoids_51 (by decide) ?_
    cases hf
    exact rt_i C hP hD hS dX6_avoids_55
set_option maxHeartbeats 4000000 in
set_option maxRecDepth 100000 in
theorem tX6_avoids (l : Launch) (G : GX) (q0 : Nat) (q0_one : Nat) (q0_other : Nat) (q0_third : Nat) (q0_waysTo : Nat) (q0_poly : Nat) (q0_then : Nat) (q0_steps : Nat) (q0_sheet : Nat) (q0_next : Nat) (q0_wide : Nat) (q0_partOf : Nat) (q0_partTimes : Nat) (q0_foundAt : Nat) (k0_one : Nat → Int32) (k0_isParted : Int32) (k0_parts : Int32) (k0_found : Int32) (p1 : Int32) (p2 : Int32) (res : Int32 × (Nat → Int32)) (hf : fX6_avoids k0_one p1 p2 = some res) : Ct l yX6_avoids wsX6_avoids rmX6_avoids G [.ref q0, .int p1, .int p2] (wdX6_avoids G q0 q0_one q0_other q0_third q0_waysTo q0_poly q0_then q0_steps q0_sheet q0_next q0_wide q0_partOf q0_partTimes q0_foundAt k0_one k0_isParted k0_parts k0_found) (wdX6_avoids G q0 q0_one q0_other q0_third q0_waysTo q0_poly q0_then q0_steps q0_sheet q0_next q0_wide q0_partOf q0_partTimes q0_foundAt res.2 k0_isParted k0_parts k0_found) (some (.int res.1)) := by
  refine Ct.of (cc := cX6_avoids) (nL := 4) (ret := (some .int)) (by decide) rfl (Nat.le_of_ble_eq_true rfl) rfl ?_
  intro p e s m below meth c A ls C hP hD hl
  obtain ⟨hx, hb, hml, hown, hts, hr, hlocks, hA, hG⟩ := id C
  have hS : va_S A s.heap s.heap [] := va_S.rf
  unfold fX6_avoids at hf
  refine lv_iload_n hx hb dX6_avoids_0 rfl (lv_at hl 1 rfl) ?_
  refine lv_aload_n hx hb dX6_avoids_1 rfl (lv_at hl 0 rfl) ?_
  refine va_get (D := G.1) (ci := 6) (v := .ref q0_one) (C := RX6) (T := TX6) (N := 16) hx hb hts nX6_avoids_X6 hown hG.1 hP 0 rfl rfl 0 (by decide) (hts _ mX6_avoids_0) (fun _ h9 => h9) rfl dX6_avoids_2 ?_
  obtain ⟨r1, hr1, hf⟩ := bd_use hf
  refine cl_S (wn := (wdX6_avoids G q0 q0_one q0_other q0_third q0_waysTo q0_poly q0_then q0_steps q0_sheet q0_next q0_wide q0_partOf q0_partTimes q0_foundAt r1.2 k0_isParted k0_parts k0_found)) (st1 := [.int r1.1]) C hP hD hS (tX6_lays l G q0_one k0_one p1 r1 hr1) (va_cwS 2 hts gX6_avoids_X6_lays rfl rfl rfl (by decide +kernel) ⟨Nat.le_of_ble_eq_true rfl, Nat.le_of_ble_eq_true rfl⟩) [1] [0] [0, 1] rfl rfl rfl rfl (by decide) rfl rfl rfl hl.1 rfl rfl (Nat.le_of_ble_eq_true rfl) dX6_avoids_5 (fun H locs hP hD hS => ?_)
  refine lv_if_eq (tgt := 20) hx hb dX6_avoids_8 (by decide) (fun hc => ?_) (fun hc => ?_)
  · have hf := if_t hc hf
    refine lv_bipush (v := (-2 : Int32)) hx hb dX6_avoids_20 (by decide) ?_
    cases hf
    exact rt_i C hP hD hS dX6_avoids_22
  · have hf := if_f hc hf
    refine lv_iload_n hx hb dX6_avoids_11 rfl (lv_at hl 2 rfl) ?_
    refine lv_iconst (v := (1 : Int32)) hx hb dX6_avoids_12 (by decide) ?_
    refine lv_iconst (v := (2 : Int32)) hx hb dX6_avoids_13 (by decide) ?_
    obtain ⟨r2, hr2, hf⟩ := bd_use hf
    refine cl_S (wn := (wdX6_avoids G q0 q0_one q0_other q0_third q0_waysTo q0_poly q0_then q0_steps q0_sheet q0_next q0_wide q0_partOf q0_partTimes q0_foundAt r1.2 k0_isParted k0_parts k0_found)) (st1 := [.int r2]) C hP hD hS (tX6_within l G p2 (1 : Int32) (2 : Int32) r2 hr2) (va_cwS 3 hts gX6_avoids_X6_within rfl rfl rfl (by decide +kernel) ⟨Nat.le_of_ble_eq_true rfl, Nat.le_of_ble_eq_true rfl⟩) [] [0, 1] [0, 1] rfl rfl rfl rfl (by decide) rfl rfl rfl hl.1 rfl rfl (Nat.le_of_ble_eq_true rfl) dX6_avoids_14 (fun H locs hP hD hS => ?_)
    refine lv_if_ne (tgt := 23) hx hb dX6_avoids_17 (by decide) (fun hc => ?_) (fun hc => ?_)
    · have hf := if_f hc hf
      refine lv_iload_n hx hb dX6_avoids_23 rfl (lv_at hl 2 rfl) ?_
      refine lv_iconst (v := (1 : Int32)) hx hb dX6_avoids_24 (by decide) ?_
      refine lv_icmp_ne (tgt := 38) hx hb dX6_avoids_25 (by decide) (fun hc => ?_) (fun hc => ?_)
      · have hf := if_f hc hf
        refine lv_aload_n hx hb dX6_avoids_38 rfl (lv_at hl 0 rfl) ?_
        refine va_get (D := G.1) (ci := 6) (v := .ref q0_one) (C := RX6) (T := TX6) (N := 16) hx hb hts nX6_avoids_X6 hown hG.1 hP 0 rfl rfl 0 (by decide) (hts _ mX6_avoids_0) (fun _ h9 => h9) rfl dX6_avoids_39 ?_
        obtain ⟨r3, hr3, hf⟩ := bd_use hf
        refine cl_S (wn := (wdX6_avoids G q0 q0_one q0_other q0_third q0_waysTo q0_poly q0_then q0_steps q0_sheet q0_next q0_wide q0_partOf q0_partTimes q0_foundAt r1.2 k0_isParted k0_parts k0_found)) (st1 := [.int r3]) C hP hD hS (tX6_hasFour l G q0_one r1.2 r3 hr3) (va_cwS 1 hts gX6_avoids_X6_hasFour rfl rfl rfl (by decide +kernel) ⟨Nat.le_of_ble_eq_true rfl, Nat.le_of_ble_eq_true rfl⟩) [1] [0] [0, 1] rfl rfl rfl rfl (by decide) rfl rfl rfl hl.1 rfl rfl (Nat.le_of_ble_eq_true rfl) dX6_avoids_42 (fun H locs hP hD hS => ?_)
        exact wX6_avoids_45 C q0 q0_one q0_other q0_third q0_waysTo q0_poly q0_then q0_steps q0_sheet q0_next q0_wide q0_partOf q0_partTimes q0_foundAt k0_isParted k0_parts k0_found p1 p2 res r1.2 r3 _ _ ls hf hP hD hS (lv_sub hl [] rfl)
      · have hf := if_t hc hf
        refine lv_aload_n hx hb dX6_avoids_28 rfl (lv_at hl 0 rfl) ?_
        refine va_get (D := G.1) (ci := 6) (v := .ref q0_one) (C := RX6) (T := TX6) (N := 16) hx hb hts nX6_avoids_X6 hown hG.1 hP 0 rfl rfl 0 (by decide) (hts _ mX6_avoids_0) (fun _ h9 => h9) rfl dX6_avoids_29 ?_
        obtain ⟨r4, hr4, hf⟩ := bd_use hf
        refine cl_S (wn := (wdX6_avoids G q0 q0_one q0_other q0_third q0_waysTo q0_poly q0_then q0_steps q0_sheet q0_next q0_wide q0_partOf q0_partTimes q0_foundAt r1.2 k0_isParted k0_parts k0_found)) (st1 := [.int r4]) C hP hD hS (tX6_hasThree l G q0_one r1.2 r4 hr4) (va_cwS 1 hts gX6_avoids_X6_hasThree rfl rfl rfl (by decide +kernel) ⟨Nat.le_of_ble_eq_true rfl, Nat.le_of_ble_eq_true rfl⟩) [1] [0] [0, 1] rfl rfl rfl rfl (by decide) rfl rfl rfl hl.1 rfl rfl (Nat.le_of_ble_eq_true rfl) dX6_avoids_32 (fun H locs hP hD hS => ?_)
        refine lv_goto (tgt := 45) hx hb dX6_avoids_35 (by decide) ?_
        exact wX6_avoids_45 C q0 q0_one q0_other q0_third q0_waysTo q0_poly q0_then q0_steps q0_sheet q0_next q0_wide q0_partOf q0_partTimes q0_foundAt k0_isParted k0_parts k0_found p1 p2 res r1.2 r4 _ _ ls hf hP hD hS (lv_sub hl [] rfl)
    · have hf := if_t hc hf
      refine lv_bipush (v := (-2 : Int32)) hx hb dX6_avoids_20 (by decide) ?_
      cases hf
      exact rt_i C hP hD hS dX6_avoids_22
