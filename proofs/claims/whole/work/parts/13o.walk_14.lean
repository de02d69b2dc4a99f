abbrev wdX6_termsOf (G : GX) (q0 : Nat) (k0 : Nat → Int64) : va_W := [(q0, .inl (G.2.2.1, 3024, .inr (.inl k0)))]
abbrev rmX6_termsOf : Room := { frames := 0, cells := 0, slots := 0, locals := 0 }
abbrev glX6_termsOf (p : Program) (l : Launch) (e : Env) (s : State) (m : MethodId) (args : Array Value) (below : List Frame) (meth : Method) (c : Code) (G : GX) (A : Nat → Prop) (q0 : Nat) (k0 : Nat → Int64) (res : Int32) (H : Heap) (locs : List Loc) (pc : Nat) (ls : Array Slot) (st : List Value) : Prop := W p l e rmX6_termsOf s m args below meth c H locs 0 0 (MQ below (ctQ G A (wdX6_termsOf G q0 k0) (some (.int res))) args s 0 0 A) (F0 m pc ls st)
set_option maxHeartbeats 4000000 in
set_option maxRecDepth 100000 in
theorem wX6_termsOf_4 {p : Program} {l : Launch} {e : Env} {s : State} {m : MethodId} {args : Array Value} {below : List Frame} {meth : Method} {c : Code} {G : GX} {A : Nat → Prop} (C : Cx p s m args meth c cX6_termsOf 3 (some .int) wsX6_termsOf RX6 G A) (q0 : Nat) (k0 : Nat → Int64) (res : Int32) (n : Nat) : ∀ (x1 : Int32) (x2 : Int32) (H : Heap) (locs : List Loc) (ls : Array Slot), fX6_termsOf_L4 k0 n x1 x2 = some res → va_P G.1 vwCl (wdX6_termsOf G q0 k0) H → va_D A (wdX6_termsOf G q0 k0) → va_S A s.heap H locs → lv_has ls 3 [(0, .ref q0), (1, .int x1), (2, .int x2)] → glX6_termsOf p l e s m args below meth c G A q0 k0 res H locs 4 ls [] := by
  obtain ⟨hx, hb, hml, hown, hts, hr, hlocks, hA, hG⟩ := id C
  induction n with
  | zero => intro x1 x2 H locs ls hf hP hD hS hl; cases hf
  | succ n ih =>
    intro x1 x2 H locs ls hf hP hD hS hl
    simp only [fX6_termsOf_L4] at hf
    refine lv_iload_n hx hb dX6_termsOf_4 rfl (lv_at hl 2 rfl) ?_
    refine lv_sipush (v := (3024 : Int32)) hx hb dX6_termsOf_5 (by decide) ?_
    refine lv_icmp_ge (tgt := 33) hx hb dX6_termsOf_8 (by decide) (fun hc => ?_) (fun hc => ?_)
    · have hf := if_t hc hf
      refine lv_iload_n hx hb dX6_termsOf_33 rfl (lv_at hl 1 rfl) ?_
      cases hf
      exact rt_i C hP hD hS dX6_termsOf_34
    · have hf := if_f hc hf
      refine lv_iload_n hx hb dX6_termsOf_11 rfl (lv_at hl 1 rfl) ?_
      refine lv_aload_n hx hb dX6_termsOf_12 rfl (lv_at hl 0 rfl) ?_
      refine lv_iload_n hx hb dX6_termsOf_13 rfl (lv_at hl 2 rfl) ?_
      obtain ⟨hin, hf⟩ := gJ_use hf
      refine va_lald hx hb hG.1 hP 0 1 rfl rfl hin dX6_termsOf_14 ?_
      refine lv_lconst (v := (0 : Int64)) hx hb dX6_termsOf_15 (by decide) ?_
      refine W.lcmp hx hb dX6_termsOf_16 ?_
      refine lv_if_eq (tgt := 24) hx hb dX6_termsOf_17 (by decide) (fun hc => ?_) (fun hc => ?_)
      · have hf := if_t hc hf
        refine lv_iconst (v := (0 : Int32)) hx hb dX6_termsOf_24 (by decide) ?_
        refine lv_iadd hx hb dX6_termsOf_25 ?_
        refine lv_topi (fun y2 ey2 => ?_)
        have hf := nm_use ey2 hf
        refine lv_istore_n (lv' := [(1, .int y2), (0, .ref q0), (2, .int x2)]) hx hb dX6_termsOf_26 rfl hl (by decide) rfl (fun ls hl => ?_)
        obtain ⟨y3, ey3⟩ : ∃ z : Int32, z = x2 + (1 : Int32) := ⟨_, rfl⟩
        have hf := nm_use ey3 hf
        refine lv_iinc (v := y3) (lv' := [(2, .int y3), (1, .int y2), (0, .ref q0)]) hx hb dX6_termsOf_27 hl (k := 2) rfl (by rw [ey3]; rfl) (by decide) rfl (fun ls hl => ?_)
        refine lv_goto (tgt := 4) hx hb dX6_termsOf_30 (by decide) ?_
        exact ih y2 y3 _ _ ls hf hP hD hS (lv_sub hl [2, 1, 0] rfl)
      · have hf := if_f hc hf
        refine lv_iconst (v := (1 : Int32)) hx hb dX6_termsOf_20 (by decide) ?_
        refine lv_goto (tgt := 25) hx hb dX6_termsOf_21 (by decide) ?_
        refine lv_iadd hx hb dX6_termsOf_25 ?_
        refine lv_topi (fun y4 ey4 => ?_)
        have hf := nm_use ey4 hf
        refine lv_istore_n (lv' := [(1, .int y4), (0, .ref q0), (2, .int x2)]) hx hb dX6_termsOf_26 rfl hl (by decide) rfl (fun ls hl => ?_)
        obtain ⟨y5, ey5⟩ : ∃ z : Int32, z = x2 + (1 : Int32) := ⟨_, rfl⟩
        have hf := nm_use ey5 hf
        refine lv_iinc (v := y5) (lv' := [(2, .int y5), (1, .int y4), (0, .ref q0)]) hx hb dX6_termsOf_27 hl (k := 2) rfl (by rw [ey5]; rfl) (by decide) rfl (fun ls hl => ?_)
        refine lv_goto (tgt := 4) hx hb dX6_termsOf_30 (by decide) ?_
        exact ih y4 y5 _ _ ls hf hP hD hS (lv_sub hl [2, 1, 0] rfl)
set_option maxHeartbeats 4000000 in
set_option maxRecDepth 100000 in
theorem tX6_termsOf (l : Launch) (G : GX) (q0 : Nat) (k0 : Nat → Int64) (res : Int32) (hf : fX6_termsOf k0 = some res) : Ct l yX6_termsOf wsX6_termsOf rmX6_termsOf G [.ref q0] (wdX6_termsOf G q0 k0) (wdX6_termsOf G q0 k0) (some (.int res)) := by
  refine Ct.of (cc := cX6_termsOf) (nL := 3) (ret := (some .int)) (by decide) rfl (Nat.le_of_ble_eq_true rfl) rfl ?_
  intro p e s m below meth c A ls C hP hD hl
  obtain ⟨hx, hb, hml, hown, hts, hr, hlocks, hA, hG⟩ := id C
  have hS : va_S A s.heap s.heap [] := va_S.rf
  unfold fX6_termsOf at hf
  refine lv_iconst (v := (0 : Int32)) hx hb dX6_termsOf_0 (by decide) ?_
  refine lv_istore_n (lv' := [(1, .int (0 : Int32)), (0, .ref q0)]) hx hb dX6_termsOf_1 rfl hl (by decide) rfl (fun ls hl => ?_)
  refine lv_iconst (v := (0 : Int32)) hx hb dX6_termsOf_2 (by decide) ?_
  refine lv_istore_n (lv' := [(2, .int (0 : Int32)), (1, .int (0 : Int32)), (0, .ref q0)]) hx hb dX6_termsOf_3 rfl hl (by decide) rfl (fun ls hl => ?_)
  exact wX6_termsOf_4 C q0 k0 res fu (0 : Int32) (0 : Int32) _ _ ls hf hP hD hS (lv_sub hl [2, 1, 0] rfl)
abbrev wdX6_number (G : GX) (q0 : Nat) (q0_one : Nat) (q0_other : Nat) (q0_third : Nat) (q0_waysTo : Nat) (q0_poly : Nat) (q0_then : Nat) (q0_steps : Nat) (q0_sheet : Nat) (q0_next : Nat) (q0_wide : Nat) (q0_partOf : Nat) (q0_partTimes : Nat) (q0_foundAt : Nat) (k0_one : Nat → Int32) (k0_poly : Nat → Int64) (k0_then : Nat → Int64) (k0_steps : Nat → Int32) (k0_isParted : Int32) (k0_parts : Int32) (k0_found : Int32) : va_W := [(q0, .inr (6, [.ref q0_one, .ref q0_other, .ref q0_third, .ref q0_waysTo, .ref q0_poly, .ref q0_then, .ref q0_steps, .ref q0_sheet, .ref q0_next, .int k0_isParted, .ref q0_wide, .int k0_parts, .ref q0_partOf, .ref q0_partTimes, .int k0_found, .ref q0_foundAt])), (q0_one, .inl (G.2.1, 10, .inl k0_one)), (q0_poly, .inl (G.2.2.1, 3024, .inr (.inl k0_poly))), (q0_then, .inl (G.2.2.1, 3024, .inr (.inl k0_then))), (q0_steps, .inl (G.2.1, 64, .inl k0_steps))]
abbrev rmX6_number : Room := { frames := 3, cells := 0, slots := 0, locals := 76 }
abbrev glX6_number (p : Program) (l : Launch) (e : Env) (s : State) (m : MethodId) (args : Array Value) (below : List Frame) (meth : Method) (c : Code) (G : GX) (A : Nat → Prop) (q0 : Nat) (q0_one : Nat) (q0_other : Nat) (q0_third : Nat) (q0_waysTo : Nat) (q0_poly : Nat) (q0_then : Nat) (q0_steps : Nat) (q0_sheet : Nat) (q0_next : Nat) (q0_wide : Nat) (q0_partOf : Nat) (q0_partTimes : Nat) (q0_foundAt : Nat) (k0_isParted : Int32) (k0_parts : Int32) (k0_found : Int32) (res : Int32 × (Nat → Int32) × (Nat → Int64) × (Nat → Int64) × (Nat → Int32)) (H : Heap) (locs : List Loc) (pc : Nat) (ls : Array Slot) (st : List Value) : Prop := W p l e rmX6_number s m args below meth c H locs 0 0 (MQ below (ctQ G A (wdX6_number G q0 q0_one q0_other q0_third q0_waysTo q0_poly q0_then q0_steps q0_sheet q0_next q0_wide q0_partOf q0_partTimes q0_foundAt res.2.1 res.2.2.1 res.2.2.2.1 res.2.2.2.2 k0_isParted k0_parts k0_found) (some (.int res.1))) args s 0 0 A) (F0 m pc ls st)
set_option maxRecDepth 20000 in
theorem mX6_number_0 : Cond.fieldLink RX6 7 "SchubertDeskModel" "one" "[I" ∈ wsX6_number := by decide +kernel
set_option maxRecDepth 20000 in
theorem mX6_number_1 : Cond.fieldLink RX6 22 "SchubertDeskModel" "poly" "[J" ∈ wsX6_number := by decide +kernel
set_option maxRecDepth 20000 in
theorem nX6_number_X6 : ∀ w ∈ u_ws RX6 TX6 16, w ∈ wsX6_number := by decide +kernel
set_option maxHeartbeats 4000000 in
set_option maxRecDepth 100000 in
theorem tX6_number (l : Launch) (G : GX) (q0 : Nat) (q0_one : Nat) (q0_other : Nat) (q0_third : Nat) (q0_waysTo : Nat) (q0_poly : Nat) (q0_then : Nat) (q0_steps : Nat) (q0_sheet : Nat) (q0_next : Nat) (q0_wide : Nat) (q0_partOf : Nat) (q0_partTimes : Nat) (q0_foundAt : Nat) (k0_one : Nat → Int32) (k0_poly : Nat → Int64) (k0_then : Nat → Int64) (k0_steps : Nat → Int32) (k0_isParted : Int32) (k0_parts : Int32) (k0_found : Int32) (p1 : Int32) (p2 : Int32) (p3 : Int32) (p4 : Int32) (p5 : Int32) (res : Int32 × (Nat → Int32) × (Nat → Int64) × (Nat → Int64) × (Nat → Int32)) (hf : fX6_number k0_one k0_poly k0_then k0_steps p1 p2 p3 p4 p5 = some res) : Ct l yX6_number wsX6_number rmX6_number G [.ref q0, .int p1, .int p2, .int p3, .int p4, .int p5] (wdX6_number G q0 q0_one q0_other q0_third q0_waysTo q0_poly q0_then q0_steps q0_sheet q0_next q0_wide q0_partOf q0_partTimes q0_foundAt k0_one k0_poly k0_then k0_steps k0_isParted k0_parts k0_found) (wdX6_number G q0 q0_one q0_other q0_third q0_waysTo q0_poly q0_then q0_steps q0_sheet q0_next q0_wide q0_partOf q0_partTimes q0_foundAt res.2.1 res.2.2.1 res.2.2.2.1 res.2.2.2.2 k0_isParted k0_parts k0_found) (some (.int res.1)) := by
  refine Ct.of (cc := cX6_number) (nL := 6) (ret := (some .int)) (by decide) rfl (Nat.le_of_ble_eq_true rfl) rfl ?_
  intro p e s m below meth c A ls C hP hD hl
  obtain ⟨hx, hb, hml, hown, hts, hr, hlocks, hA, hG⟩ := id C
  have hS : va_S A s.heap s.heap [] := va_S.rf
  unfold fX6_number at hf
  refine lv_iload_n hx hb dX6_number_0 rfl (lv_at hl 1 rfl) ?_
  refine lv_aload_n hx hb dX6_number_1 rfl (lv_at hl 0 rfl) ?_
  refine va_get (D := G.1) (ci := 6) (v := .ref q0_one) (C := RX6) (T := TX6) (N := 16) hx hb hts nX6_number_X6 hown hG.1 hP 0 rfl rfl 0 (by decide) (hts _ mX6_number_0) (fun _ h9 => h9) rfl dX6_number_2 ?_
  obtain ⟨r1, hr1, hf⟩ := bd_use hf
  refine cl_S (wn := (wdX6_number G q0 q0_one q0_other q0_third q0_waysTo q0_poly q0_then q0_steps q0_sheet q0_next q0_wide q0_partOf q0_partTimes q0_foundAt r1.2 k0_poly k0_then k0_steps k0_isParted k0_parts k0_found)) (st1 := [.int r1.1]) C hP hD hS (tX6_lays l G q0_one k0_one p1 r1 hr1) (va_cwS 2 hts gX6_number_X6_lays rfl rfl rfl (by decide +kernel) ⟨Nat.le_of_ble_eq_true rfl, Nat.le_of_ble_eq_true rfl⟩) [1] [0, 2, 3, 4] [0, 4, 1, 2, 3] rfl rfl rfl rfl (by decide) rfl rfl rfl hl.1 rfl rfl (Nat.le_of_ble_eq_true rfl) dX6_number_5 (fun H locs hP hD hS => ?_)
  refine lv_if_eq (tgt := 29) hx hb dX6_number_8 (by decide) (fun hc => ?_) (fun hc => ?_)
  · have hf := if_t hc hf
    refine lv_bipush (v := (-2 : Int32)) hx hb dX6_number_29 (by decide) ?_
    cases hf
    exact rt_i C hP hD hS dX6_number_31
  · have hf := if_f hc hf
    refine lv_iload_n hx hb dX6_number_11 rfl (lv_at hl 2 rfl) ?_
    refine lv_if_lt (tgt := 29) hx hb dX6_number_12 (by decide) (fun hc => ?_) (fun hc => ?_)
    · have hf := if_t hc hf
      refine lv_bipush (v := (-2 : Int32)) hx hb dX6_number_29 (by decide) ?_
      cases hf
      exact rt_i C hP hD hS dX6_number_31
    · have hf := if_f hc hf
      refine lv_iload_n hx hb dX6_number_15 rfl (lv_at hl 3 rfl) ?_
      refine lv_if_lt (tgt := 29) hx hb dX6_number_16 (by decide) (fun hc => ?_) (fun hc => ?_)
      · have hf := if_t hc hf
        refine lv_bipush (v := (-2 : Int32)) hx hb dX6_number_29 (by decide) ?_
        cases hf
        exact rt_i C hP hD hS dX6_number_31
      · have hf := if_f hc hf
        refine lv_iload hx hb dX6_number_19 (lv_at hl 4 rfl) ?_
        refine lv_if_lt (tgt := 29) hx hb dX6_number_21 (by decide) (fun hc => ?_) (fun hc => ?_)
        · have hf := if_t hc hf
          refine lv_bipush (v := (-2 : Int32)) hx hb dX6_number_29 (by decide) ?_
          cases hf
          exact rt_i C hP hD hS dX6_number_31
        · have hf := if_f hc hf
          refine lv_iload hx hb dX6_number_24 (lv_at hl 5 rfl) ?_
          refine lv_if_ge (tgt := 32) hx hb dX6_number_26 (by decide) (fun hc => ?_) (fun hc => ?_)
          · have hf := if_t hc hf
            refine lv_aload_n hx hb dX6_number_32 rfl (lv_at hl 0 rfl) ?_
            refine va_get (D := G.1) (ci := 6) (v := .ref q0_one) (C := RX6) (T := TX6) (N := 16) hx hb hts nX6_number_X6 hown hG.1 hP 0 rfl rfl 0 (by decide) (hts _ mX6_number_0) (fun _ h9 => h9) rfl dX6_number_33 ?_
            obtain ⟨r2, hr2, hf⟩ := bd_use hf
            refine cl_S (wn := (wdX6_number G q0 q0_one q0_other q0_third q0_waysTo q0_poly q0_then q0_steps q0_sheet q0_next q0_wide q0_partOf q0_partTimes q0_foundAt r1.2 k0_poly k0_then k0_steps k0_isParted k0_parts k0_found)) (st1 := [.int r2]) C hP hD hS (tX6_isFit l G q0_one r1.2 r2 hr2) (va_cwS 1 hts gX6_number_X6_isFit rfl rfl rfl (by decide +kernel) ⟨Nat.le_of_ble_eq_true rfl, Nat.le_of_ble_eq_true rfl⟩) [1] [0, 2, 3, 4] [0, 4, 1, 2, 3] rfl rfl rfl rfl (by decide) rfl rfl rfl hl.1 rfl rfl (Nat.le_of_ble_eq_true rfl) dX6_number_36 (fun H locs hP hD hS => ?_)
            refine lv_if_ne (tgt := 45) hx hb dX6_number_39 (by decide) (fun hc => ?_) (fun hc => ?_)
            · have hf := if_f hc hf
              refine lv_aload_n hx hb dX6_number_45 rfl (lv_at hl 0 rfl) ?_
              refine lv_aload_n hx hb dX6_number_46 rfl (lv_at hl 0 rfl) ?_
              refine va_get (D := G.1) (ci := 6) (v := .ref q0_one) (C := RX6) (T := TX6) (N := 16) hx hb hts nX6_number_X6 hown hG.1 hP 0 rfl rfl 0 (by decide) (hts _ mX6_number_0) (fun _ h9 => h9) rfl dX6_number_47 ?_
              obtain ⟨r3, hr3, hf⟩ := bd_use hf
              refine cl_V (wn := (wdX6_number G q0 q0_one q0_other q0_third q0_waysTo q0_poly q0_then q0_steps q0_sheet q0_next q0_wide q0_partOf q0_partTimes q0_foundAt r3.2.2.2 r3.1 r3.2.1 r3.2.2.1 k0_isParted k0_parts k0_found)) (st1 := []) C hP hD hS (tX6_findS l G q0 q0_one q0_other q0_third q0_waysTo q0_poly q0_then q0_steps q0_sheet q0_next q0_wide q0_partOf q0_partTimes q0_foundAt q0_one k0_poly k0_then k0_steps k0_isParted k0_parts k0_found r1.2 r3 hr3) (cwV 1 hts gX6_number_X6_findS rfl rfl rfl (by decide +kernel) ⟨Nat.le_of_ble_eq_true rfl, Nat.le_of_ble_eq_true rfl⟩) [0, 2, 3, 4, 1] [] [0, 4, 1, 2, 3] rfl rfl rfl rfl (by decide) rfl rfl (ci := 6) (q0 := 0) rfl rfl rfl rfl hl.1 rfl rfl (Nat.le_of_ble_eq_true rfl) dX6_number_50 (fun H locs hP hD hS => ?_)
              refine lv_iload_n hx hb dX6_number_53 rfl (lv_at hl 2 rfl) ?_
              refine lv_iload_n hx hb dX6_number_54 rfl (lv_at hl 3 rfl) ?_
              refine lv_iload hx hb dX6_number_55 (lv_at hl 4 rfl) ?_
              refine lv_iload hx hb dX6_number_57 (lv_at hl 5 rfl) ?_
              obtain ⟨r4, hr4, hf⟩ := bd_use hf
              refine cl_S (wn := (wdX6_number G q0 q0_one q0_other q0_third q0_waysTo q0_poly q0_then q0_steps q0_sheet q0_next q0_wide q0_partOf q0_partTimes q0_foundAt r3.2.2.2 r3.1 r3.2.1 r3.2.2.1 k0_isParted k0_parts k0_found)) (st1 := [.int r4]) C hP hD hS (tX6_isCell l G p2 p3 p4 p5 r4 hr4) (va_cwS 4 hts gX6_number_X6_isCell rfl rfl rfl (by decide +kernel) ⟨Nat.le_of_ble_eq_true rfl, Nat.le_of_ble_eq_true rfl⟩) [] [0, 1, 2, 3, 4] [0, 1, 2, 3, 4] rfl rfl rfl rfl (by decide) rfl rfl rfl hl.1 rfl rfl (Nat.le_of_ble_eq_true rfl) dX6_number_59 (fun H locs hP hD hS => ?_)
              refine lv_if_eq (tgt := 83) hx hb dX6_number_62 (by decide) (fun hc => ?_) (fun hc => ?_)
              · have hf := if_t hc hf
                refine lv_iconst (v := (0 : Int32)) hx hb dX6_number_83 (by decide) ?_
                cases hf
                exact rt_i C hP hD hS dX6_number_84
              · have hf := if_f hc hf
                refine lv_aload_n hx hb dX6_number_65 rfl (lv_at hl 0 rfl) ?_
                refine va_get (D := G.1) (ci := 6) (v := .ref q0_poly) (C := RX6) (T := TX6) (N := 16) hx hb hts nX6_number_X6 hown hG.1 hP 0 rfl rfl 4 (by decide) (hts _ mX6_number_1) (fun _ h9 => h9) rfl dX6_number_66 ?_
                refine lv_iload_n hx hb dX6_number_69 rfl (lv_at hl 2 rfl) ?_
                refine lv_iload_n hx hb dX6_number_70 rfl (lv_at hl 3 rfl) ?_
                refine lv_iload hx hb dX6_number_71 (lv_at hl 4 rfl) ?_
                refine lv_iload hx hb dX6_number_73 (lv_at hl 5 rfl) ?_
                obtain ⟨r5, hr5, hf⟩ := bd_use hf
                refine cl_S (wn := (wdX6_number G q0 q0_one q0_other q0_third q0_waysTo q0_poly q0_then q0_steps q0_sheet q0_next q0_wide q0_partOf q0_partTimes q0_foundAt r3.2.2.2 r3.1 r3.2.1 r3.2.2.1 k0_isParted k0_parts k0_found)) (st1 := [.int r5, .ref q0_poly]) C hP hD hS (tX6_cellOf l G p2 p3 p4 p5 r5 hr5) (va_cwS 4 hts gX6_number_X6_cellOf rfl rfl rfl (by decide +kernel) ⟨Nat.le_of_ble_eq_true rfl, Nat.le_of_ble_eq_true rfl⟩) [] [0, 1, 2, 3, 4] [0, 1, 2, 3, 4] rfl rfl rfl rfl (by decide) rfl rfl rfl hl.1 rfl rfl (Nat.le_of_ble_eq_true rfl) dX6_number_75 (fun H locs hP hD hS => ?_)
                obtain ⟨hin, hf⟩ := gJ_use hf
                refine va_lald hx hb hG.1 hP 2 1 rfl rfl hin dX6_number_78 ?_
                refine lv_l2i hx hb dX6_number_79 rfl ?_
                refine lv_goto (tgt := 84) hx hb dX6_number_80 (by decide) ?_
                cases hf
                exact rt_i C hP hD hS dX6_number_84
            · have hf := if_t hc hf
              refine lv_bipush (v := (-3 : Int32)) hx hb dX6_number_42 (by decide) ?_
              cases hf
              exact rt_i C hP hD hS dX6_number_44
          · have hf := if_f hc hf
            refine lv_bipush (v := (-2 : Int32)) hx hb dX6_number_29 (by decide) ?_
            cases hf
            exact rt_i C hP hD hS dX6_number_31
abbrev wdX6_terms (G : GX) (q0 : Nat) (q0_one : Nat) (q0_other : Nat) (q0_third : Nat) (q0_waysTo : Nat) (q0_poly : Nat) (q0_then : Nat) (q0_steps : Nat) (q0_sheet : Nat) (q0_next : Nat) (q0_wide : Nat) (q0_partOf : Nat) (q0_partTimes : Nat) (q0_foundAt : Nat) (k0_one : Nat → Int32) (k0_poly : Nat → Int64) (k0_then : Nat → Int64) (k0_steps : Nat → Int32) (k0_isParted : Int32) (k0_parts : Int32) (k0_found : Int32) : va_W := [(q0, .inr (6, [.ref q0_one, .ref q0_other, .ref q0_third, .ref q0_waysTo, .ref q0_poly, .ref q0_then, .ref q0_steps, .ref q0_sheet, .ref q0_next, .int k0_isParted, .ref q0_wide, .int k0_parts, .ref q0_partOf, .ref q0_partTimes, .int k0_found, .ref q0_foundAt])), (q0_one, .inl (G.2.1, 10, .inl k0_one)), (q0_poly, .inl (G.2.2.1, 3024, .inr (.inl k0_poly))), (q0_then, .inl (G.2.2.1, 3024, .inr (.inl k0_then))), (q0_steps, .inl (G.2.1, 64, .inl k0_steps))]
abbrev rmX6_terms : Room := { frames := 3, cells := 0, slots := 0, locals := 76 }
abbrev glX6_terms (p : Program) (l : Launch) (e : Env) (s : State) (m : MethodId) (args : Array Value) (below : List Frame) (meth : Method) (c : Code) (G : GX) (A : Nat → Prop) (q0 : Nat) (q0_one : Nat) (q0_other : Nat) (q0_third : Nat) (q0_waysTo : Nat) (q0_poly : Nat) (q0_then : Nat) (q0_steps : Nat) (q0_sheet : Nat) (q0_next : Nat) (q0_wide : Nat) (q0_partOf : Nat) (q0_partTimes : Nat) (q0_foundAt : Nat) (k0_isParted : Int32) (k0_parts : Int32) (k0_found : Int32) (res : Int32 × (Nat → Int32) × (Nat → Int64) × (Nat → Int64) × (Nat → Int32)) (H : Heap) (locs : List Loc) (pc : Nat) (ls : Array Slot) (st : List Value) : Prop := W p l e rmX6_terms s m args below meth c H locs 0 0 (MQ below (ctQ G A (wdX6_terms G q0 q0_one q0_other q0_third q0_waysTo q0_poly q0_then q0_steps q0_sheet q0_next q0_wide q0_partOf q0_partTimes q0_foundAt res.2.1 res.2.2.1 res.2.2.2.1 res.2.2.2.2 k0_isParted k0_parts k0_found) (some (.int res.1))) args s 0 0 A) (F0 m pc ls st)
set_option maxRecDepth 20000 in
theorem mX6_terms_0 : Cond.fieldLink RX6 7 "SchubertDeskModel" "one" "[I" ∈ wsX6_terms := by decide +kernel
set_option maxRecDepth 20000 in
theorem mX6_terms_1 : Cond.fieldLink RX6 22 "SchubertDeskModel" "poly" "[J" ∈ wsX6_terms := by decide +kernel
set_option maxRecDepth 20000 in
theorem nX6_terms_X6 : ∀ w ∈ u_ws RX6 TX6 16, w ∈ wsX6_terms := by decide +kernel
set_option maxHeartbeats 4000000 in
set_option maxRecDepth 100000 in
theorem tX6_terms (l : Launch) (G : GX) (q0 : Nat) (q0_one : Nat) (q0_other : Nat) (q0_third : Nat) (q0_waysTo : Nat) (q0_poly : Nat) (q0_then : Nat) (q0_steps : Nat) (q0_sheet : Nat) (q0_next : Nat) (q0_wide : Nat) (q0_partOf : Nat) (q0_partTimes : Nat) (q0_foundAt : Nat) (k0_one : Nat → Int32) (k0_poly : Nat → Int64) (k0_then : Nat → Int64) (k0_steps : Nat → Int32) (k0_isParted : Int32) (k0_parts : Int32) (k0_found : Int32) (p1 : Int32) (res : Int32 × (Nat → Int32) × (Nat → Int64) × (Nat → Int64) × (Nat → Int32)) (hf : fX6_terms k0_one k0_poly k0_then k0_steps p1 = some res) : Ct l yX6_terms wsX6_terms rmX6_terms G [.ref q0, .int p1] (wdX6_terms G q0 q0_one q0_other q0_third q0_waysTo q0_poly q0_then q0_steps q0_sheet q0_next q0_wide q0_partOf q0_partTimes q0_foundAt k0_one k0_poly k0_then k0_steps k0_isParted k0_parts k0_found) (wdX6_terms G q0 q0_one q0_other q0_third q0_waysTo q0_poly q0_then q0_steps q0_sheet q0_next q0_wide q0_partOf q0_partTimes q0_foundAt res.2.1 res.2.2.1 res.2.2.2.1 res.2.2.2.2 k0_isParted k0_parts k0_found) (some (.int res.1)) := by
  refine Ct.of (cc := cX6_terms) (nL := 2) (ret := (some .int)) (by decide) rfl (Nat.le_of_ble_eq_true rfl) rfl ?_
  intro p e s m below meth c A ls C hP hD hl
  obtain ⟨hx, hb, hml, hown, hts, hr, hlocks, hA, hG⟩ := id C
  have hS : va_S A s.heap s.heap [] := va_S.rf
  unfold fX6_terms at hf
  refine lv_iload_n hx hb dX6_terms_0 rfl (lv_at hl 1 rfl) ?_
  refine lv_aload_n hx hb dX6_terms_1 rfl (lv_at hl 0 rfl) ?_
  refine va_get (D := G.1) (ci := 6) (v := .ref q0_one) (C := RX6) (T := TX6) (N := 16) hx hb hts nX6_terms_X6 hown hG.1 hP 0 rfl rfl 0 (by decide) (hts _ mX6_terms_0) (fun _ h9 => h9) rfl dX6_terms_2 ?_
  obtain ⟨r1, hr1, hf⟩ := bd_use hf
  refine cl_S (wn := (wdX6_terms G q0 q0_one q0_other q0_third q0_waysTo q0_poly q0_then q0_steps q0_sheet q0_next q0_wide q0_partOf q0_partTimes q0_foundAt r1.2 k0_poly k0_then k0_steps k0_isParted k0_parts k0_found)) (st1 := [.int r1.1]) C hP hD hS (tX6_lays l G q0_one k0_one p1 r1 hr1) (va_cwS 2 hts gX6_terms_X6_lays rfl rfl rfl (by decide +kernel) ⟨Nat.le_of_ble_eq_true rfl, Nat.le_of_ble_eq_true rfl⟩) [1] [0, 2, 3, 4] [0, 4, 1, 2, 3] rfl rfl rfl rfl (by decide) rfl rfl rfl hl.1 rfl rfl (Nat.le_of_ble_eq_true rfl) dX6_terms_5 (fun H locs hP hD hS => ?_)
  refine lv_if_ne (tgt := 14) hx hb dX6_terms_8 (by decide) (fun hc => ?_) (fun hc => ?_)
  · have hf := if_f hc hf
    refine lv_aload_n hx hb dX6_terms_14 rfl (lv_at hl 0 rfl) ?_
    refine va_get (D := G.1) (ci := 6) (v := .ref q0_one) (C := RX6) (T := TX6) (N := 16) hx hb hts nX6_terms_X6 hown hG.1 hP 0 rfl rfl 0 (by decide) (hts _ mX6_terms_0) (fun _ h9 => h9) rfl dX6_terms_15 ?_
    obtain ⟨r2, hr2, hf⟩ := bd_use hf
    refine cl_S (wn := (wdX6_terms G q0 q0_one q0_other q0_third q0_waysTo q0_poly q0_then q0_steps q0_sheet q0_next q0_wide q0_partOf q0_partTimes q0_foundAt r1.2 k0_poly k0_then k0_steps k0_isParted k0_parts k0_found)) (st1 := [.int r2]) C hP hD hS (tX6_isFit l G q0_one r1.2 r2 hr2) (va_cwS 1 hts gX6_terms_X6_isFit rfl rfl rfl (by decide +kernel) ⟨Nat.le_of_ble_eq_true rfl, Nat.le_of_ble_eq_true rfl⟩) [1] [0, 2, 3, 4] [0, 4, 1, 2, 3] rfl rfl rfl rfl (by decide) rfl rfl rfl hl.1 rfl rfl (Nat.le_of_ble_eq_true rfl) dX6_terms_18 (fun H locs hP hD hS => ?_)
    refine lv_if_ne (tgt := 27) hx hb dX6_terms_21 (by decide) (fun hc => ?_) (fun hc => ?_)
    · have hf := if_f hc hf
      refine lv_aload_n hx hb dX6_terms_27 rfl (lv_at hl 0 rfl) ?_
      refine lv_aload_n hx hb dX6_terms_28 rfl (lv_at hl 0 rfl) ?_
      refine va_get (D := G.1) (ci := 6) (v := .ref q0_one) (C := RX6) (T := TX6) (N := 16) hx hb hts nX6_terms_X6 hown hG.1 hP 0 rfl rfl 0 (by decide) (hts _ mX6_terms_0) (fun _ h9 => h9) rfl dX6_terms_29 ?_
      obtain ⟨r3, hr3, hf⟩ := bd_use hf
      refine cl_V (wn := (wdX6_terms G q0 q0_one q0_other q0_third q0_waysTo q0_poly q0_then q0_steps q0_sheet q0_next q0_wide q0_partOf q0_partTimes q0_foundAt r3.2.2.2 r3.1 r3.2.1 r3.2.2.1 k0_isParted k0_parts k0_found)) (st1 := []) C hP hD hS (tX6_findS l G q0 q0_one q0_other q0_third q0_waysTo q0_poly q0_then q0_steps q0_sheet q0_next q0_wide q0_partOf q0_partTimes q0_foundAt q0_one k0_poly k0_then k0_steps k0_isParted k0_parts k0_found r1.2 r3 hr3) (cwV 1 hts gX6_terms_X6_findS rfl rfl rfl (by decide +kernel) ⟨Nat.le_of_ble_eq_true rfl, Nat.le_of_ble_eq_true rfl⟩) [0, 2, 3, 4, 1] [] [0, 4, 1, 2, 3] rfl rfl rfl rfl (by decide) rfl rfl (ci := 6) (q0 := 0) rfl rfl rfl rfl hl.1 rfl rfl (Nat.le_of_ble_eq_true rfl) dX6_terms_32 (fun H locs hP hD hS => ?_)
      refine lv_aload_n hx hb dX6_terms_35 rfl (lv_at hl 0 rfl) ?_
      refine va_get (D := G.1) (ci := 6) (v := .ref q0_poly) (C := RX6) (T := TX6) (N := 16) hx hb hts nX6_terms_X6 hown hG.1 hP 0 rfl rfl 4 (by decide) (hts _ mX6_terms_1) (fun _ h9 => h9) rfl dX6_terms_36 ?_
      obtain ⟨r4, hr4, hf⟩ := bd_use hf
      refine cl_S (wn := (wdX6_terms G q0 q0_one q0_other q0_third q0_waysTo q0_poly q0_then q0_steps q0_sheet q0_next q0_wide q0_partOf q0_partTimes q0_foundAt r3.2.2.2 r3.1 r3.2.1 r3.2.2.1 k0_isParted k0_parts k0_found)) (st1 := [.int r4]) C hP hD hS (tX6_termsOf l G q0_poly r3.1 r4 hr4) (va_cwS 1 hts gX6_terms_X6_termsOf rfl rfl rfl (by decide +kernel) ⟨Nat.le_of_ble_eq_true rfl, Nat.le_of_ble_eq_true rfl⟩) [2] [0, 1, 3, 4] [0, 1, 4, 2, 3] rfl rfl rfl rfl (by decide) rfl rfl rfl hl.1 rfl rfl (Nat.le_of_ble_eq_true rfl) dX6_terms_39 (fun H locs hP hD hS => ?_)
      cases hf
      exact rt_i C hP hD hS dX6_terms_42
    · have hf := if_t hc hf
      refine lv_bipush (v := (-3 : Int32)) hx hb dX6_terms_24 (by decide) ?_
      cases hf
      exact rt_i C hP hD hS dX6_terms_26
  · have hf := if_t hc hf
    refine lv_bipush (v := (-2 : Int32)) hx hb dX6_terms_11 (by decide) ?_
    cases hf
    exact rt_i C hP hD hS dX6_terms_13
abbrev wdX6_power (G : GX) : va_W := []
abbrev rmX6_power : Room := { frames := 0, cells := 0, slots := 0, locals := 0 }
abbrev glX6_power (p : Program) (l : Launch) (e : Env) (s : State) (m : MethodId) (args : Array Value) (below : List Frame) (meth : Method) (c : Code) (G : GX) (A : Nat → Prop) (res : Int64) (H : Heap) (locs : List Loc) (pc : Nat) (ls : Array Slot) (st : List Value) : Prop := W p l e rmX6_power s m args below meth c H locs 0 0 (MQ below (ctQ G A (wdX6_power G) (some (.long res))) args s 0 0 A) (F0 m pc ls st)
set_option maxHeartbeats 4000000 in
set_option maxRecDepth 100000 in
theorem wX6_power_5 {p : Program} {l : Launch} {e : Env} {s : State} {m : MethodId} {args : Array Value} {below : List Frame} {meth : Method} {c : Code} {G : GX} {A : Nat → Prop} (C : Cx p s m args meth c cX6_power 5 (some .long) wsX6_power RX6 G A) (p0 : Int32) (p1 : Int32) (res : Int64) (n : Nat) : ∀ (x2 : Int64) (x4 : Int32) (H : Heap) (locs : List Loc) (ls : Array Slot), fX6_power_L5 p0 p1 n x2 x4 = some res → va_P G.1 vwCl (wdX6_power G) H → va_D A (wdX6_power G) → va_S A s.heap H locs → lv_has ls 5 [(0, .int p0), (1, .int p1), (2, .long x2), (4, .int x4)] → glX6_power p l e s m args below meth c G A res H locs 5 ls [] := by
  obtain ⟨hx, hb, hml, hown, hts, hr, hlocks, hA, hG⟩ := id C
  induction n with
  | zero => intro x2 x4 H locs ls hf hP hD hS hl; cases hf
  | succ n ih =>
    intro x2 x4 H locs ls hf hP hD hS hl
    simp only [fX6_power_L5] at hf
    refine lv_iload hx hb dX6_power_5 (lv_at hl 3 rfl) ?_
    refine lv_iload_n hx hb dX6_power_7 rfl (lv_at hl 1 rfl) ?_
    refine lv_icmp_ge (tgt := 22) hx hb dX6_power_8 (by decide) (fun hc => ?_) (fun hc => ?_)
    · have hf := if_t hc hf
      refine lv_lload_n hx hb dX6_power_22 rfl (lv_at hl 2 rfl) ?_
      cases hf
      exact rt_l C hP hD hS dX6_power_23
    · have hf := if_f hc hf
      refine lv_lload_n hx hb dX6_power_11 rfl (lv_at hl 2 rfl) ?_
      refine lv_iload_n hx hb dX6_power_12 rfl (lv_at hl 0 rfl) ?_
      refine lv_i2l hx hb dX6_power_13 rfl ?_
      refine lv_lmul hx hb dX6_power_14 ?_
      refine lv_topl (fun y1 ey1 => ?_)
      have hf := nm_use ey1 hf
      refine lv_lstore_n (lv' := [(2, .long y1), (0, .int p0), (1, .int p1), (4, .int x4)]) hx hb dX6_power_15 rfl hl (by decide) rfl (fun ls hl => ?_)
      obtain ⟨y2, ey2⟩ : ∃ z : Int32, z = x4 + (1 : Int32) := ⟨_, rfl⟩
      have hf := nm_use ey2 hf
      refine lv_iinc (v := y2) (lv' := [(4, .int y2), (2, .long y1), (0, .int p0), (1, .int p1)]) hx hb dX6_power_16 hl (k := 3) rfl (by rw [ey2]; rfl) (by decide) rfl (fun ls hl => ?_)
      refine lv_goto (tgt := 5) hx hb dX6_power_19 (by decide) ?_
      exact ih y1 y2 _ _ ls hf hP hD hS (lv_sub hl [2, 3, 1, 0] rfl)
set_option maxHeartbeats 4000000 in
set_option maxRecDepth 100000 in
theorem tX6_power (l : Launch) (G : GX) (p0 : Int32) (p1 : Int32) (res : Int64) (hf : fX6_power p0 p1 = some res) : Ct l yX6_power wsX6_power rmX6_power G [.int p0, .int p1] (wdX6_power G) (wdX6_power G) (some (.long res)) := by
  refine Ct.of (cc := cX6_power) (nL := 5) (ret := (some .long)) (by decide) rfl (Nat.le_of_ble_eq_true rfl) rfl ?_
  intro p e s m below meth c A ls C hP hD hl
  obtain ⟨hx, hb, hml, hown, hts, hr, hlocks, hA, hG⟩ := id C
  have hS : va_S A s.heap s.heap [] := va_S.rf
  unfold fX6_power at hf
  refine lv_lconst (v := (1 : Int64)) hx hb dX6_power_0 (by decide) ?_
  refine lv_lstore_n (lv' := [(2, .long (1 : Int64)), (0, .int p0), (1, .int p1)]) hx hb dX6_power_1 rfl hl (by decide) rfl (fun ls hl => ?_)
  refine lv_iconst (v := (0 : Int32)) hx hb dX6_power_2 (by decide) ?_
  refine lv_istore (lv' := [(4, .int (0 : Int32)), (2, .long (1 : Int64)), (0, .int p0), (1, .int p1)]) hx hb dX6_power_3 hl (by decide) rfl (fun ls hl => ?_)
  exact wX6_power_5 C p0 p1 res fu (1 : Int64) (0 : Int32) _ _ ls hf hP hD hS (lv_sub hl [2, 3, 1, 0] rfl)
abbrev wdX6_isX (G : GX) : va_W := []
abbrev rmX6_isX : Room := { frames := 1, cells := 0, slots := 0, locals := 22 }
abbrev glX6_isX (p : Program) (l : Launch) (e : Env) (s : State) (m : MethodId) (args : Array Value) (below : List Frame) (meth : Method) (c : Code) (G : GX) (A : Nat → Prop) (res : Int32) (H : Heap) (locs : List Loc) (pc : Nat) (ls : Array Slot) (st : List Value) : Prop := W p l e rmX6_isX s m args below meth c H locs 0 0 (MQ below (ctQ G A (wdX6_isX G) (some (.int res))) args s 0 0 A) (F0 m pc ls st)
set_option maxHeartbeats 4000000 in
set_option maxRecDepth 100000 in
theorem tX6_isX (l : Launch) (G : GX) (p0 : Int32) (res : Int32) (hf : fX6_isX p0 = some res) : Ct l yX6_isX wsX6_isX rmX6_isX G [.int p0] (wdX6_isX G) (wdX6_isX G) (some (.int res)) := by
  refine Ct.of (cc := cX6_isX) (nL := 1) (ret := (some .boolean)) (by decide) rfl (Nat.le_of_ble_eq_true rfl) rfl ?_
  intro p e s m below meth c A ls C hP hD hl
  obtain ⟨hx, hb, hml, hown, hts, hr, hlocks, hA, hG⟩ := id C
  have hS : va_S A s.heap s.heap [] := va_S.rf
  unfold fX6_isX at hf
  refine lv_iload_n hx hb dX6_isX_0 rfl (lv_at hl 0 rfl) ?_
  refine lv_bipush (v := (-3 : Int32)) hx hb dX6_isX_1 (by decide) ?_
  refine lv_iconst (v := (3 : Int32)) hx hb dX6_isX_3 (by decide) ?_
  obtain ⟨r1, hr1, hf⟩ := bd_use hf
  refine cl_S (wn := (wdX6_isX G)) (st1 := [.int r1]) C hP hD hS (tX6_within l G p0 (-3 : Int32) (3 : Int32) r1 hr1) (va_cwS 3 hts gX6_isX_X6_within rfl rfl rfl (by decide +kernel) ⟨Nat.le_of_ble_eq_true rfl, Nat.le_of_ble_eq_true rfl⟩) [] [] [] rfl rfl rfl rfl (by decide) rfl rfl rfl hl.1 rfl rfl (Nat.le_of_ble_eq_true rfl) dX6_isX_4 (fun H locs hP hD hS => ?_)
  obtain ⟨hz, hf⟩ := bz_use hf
  cases hf
  exact rt_z C hz hP hD hS dX6_isX_7
abbrev wdX6_value (G : GX) (q0 : Nat) (q0_one : Nat) (q0_other : Nat) (q0_third : Nat) (q0_waysTo : Nat) (q0_poly : Nat) (q0_then : Nat) (q0_steps : Nat) (q0_sheet : Nat) (q0_next : Nat) (q0_wide : Nat) (q0_partOf : Nat) (q0_partTimes : Nat) (q0_foundAt : Nat) (k0_one : Nat → Int32) (k0_poly : Nat → Int64) (k0_then : Nat → Int64) (k0_steps : Nat → Int32) (k0_isParted : Int32) (k0_parts : Int32) (k0_found : Int32) : va_W := [(q0, .inr (6, [.ref q0_one, .ref q0_other, .ref q0_third, .ref q0_waysTo, .ref q0_poly, .ref q0_then, .ref q0_steps, .ref q0_sheet, .ref q0_next, .int k0_isParted, .ref q0_wide, .int k0_parts, .ref q0_partOf, .ref q0_partTimes, .int k0_found, .ref q0_foundAt])), (q0_one, .inl (G.2.1, 10, .inl k0_one)), (q0_poly, .inl (G.2.2.1, 3024, .inr (.inl k0_poly))), (q0_then, .inl (G.2.2.1, 3024, .inr (.inl k0_then))), (q0_steps, .inl (G.2.1, 64, .inl k0_steps))]
abbrev rmX6_value : Room := { frames := 3, cells := 0, slots := 0, locals := 76 }
abbrev glX6_value (p : Program) (l : Launch) (e : Env) (s : State) (m : MethodId) (args : Array Value) (below : List Frame) (meth : Method) (c : Code) (G : GX) (A : Nat → Prop) (q0 : Nat) (q0_one : Nat) (q0_other : Nat) (q0_third : Nat) (q0_waysTo : Nat) (q0_poly : Nat) (q0_then : Nat) (q0_steps : Nat) (q0_sheet : Nat) (q0_next : Nat) (q0_wide : Nat) (q0_partOf : Nat) (q0_partTimes : Nat) (q0_foundAt : Nat) (k0_isParted : Int32) (k0_parts : Int32) (k0_found : Int32) (res : Int64 × (Nat → Int32) × (Nat → Int64) × (Nat → Int64) × (Nat → Int32)) (H : Heap) (locs : List Loc) (pc : Nat) (ls : Array Slot) (st : List Value) : Prop := W p l e rmX6_value s m args below meth c H locs 0 0 (MQ below (ctQ G A (wdX6_value G q0 q0_one q0_other q0_third q0_waysTo q0_poly q0_then q0_steps q0_sheet q0_next q0_wide q0_partOf q0_partTimes q0_foundAt res.2.1 res.2.2.1 res.2.2.2.1 res.2.2.2.2 k0_isParted k0_parts k0_found) (some (.long res.1))) args s 0 0 A) (F0 m pc ls st)
set_option maxRecDepth 20000 in
theorem mX6_value_0 : Cond.fieldLink RX6 22 "SchubertDeskModel" "poly" "[J" ∈ wsX6_value := by decide +kernel
set_option maxRecDepth 20000 in
theorem mX6_value_1 : Cond.fieldLink RX6 7 "SchubertDeskModel" "one" "[I" ∈ wsX6_value := by decide +kernel
set_option maxRecDepth 20000 in
theorem mX6_value_2 : Cond.constantLong RX6 134 (-9223372036854775808) ∈ wsX6_value := by decide +kernel
set_option maxRecDepth 20000 in
theorem nX6_value_X6 : ∀ w ∈ u_ws RX6 TX6 16, w ∈ wsX6_value := by decide +kernel
set_option maxHeartbeats 4000000 in
set_option maxRecDepth 100000 in
theorem wX6_value_69 {p : Program} {l : Launch} {e : Env} {s : State} {m : MethodId} {args : Array Value} {below : List Frame} {meth : Method} {c : Code} {G : GX} {A : Nat → Prop} (C : Cx p s m args meth c cX6_value 9 (some .long) wsX6_value RX6 G A) (q0 : Nat) (q0_one : Nat) (q0_other : Nat) (q0_third : Nat) (q0_waysTo : Nat) (q0_poly : Nat) (q0_then : Nat) (q0_steps : Nat) (q0_sheet : Nat) (q0_next : Nat) (q0_wide : Nat) (q0_partOf : Nat) (q0_partTimes : Nat) (q0_foundAt : Nat) (k0_isParted : Int32) (k0_parts : Int32) (k0_found : Int32) (p1 : Int32) (p2 : Int32) (p3 : Int32) (p4 : Int32) (p5 : Int32) (res : Int64 × (Nat → Int32) × (Nat → Int64) × (Nat → Int64) × (Nat → Int32)) (n : Nat) : ∀ (k0_one : Nat → Int32) (k0_poly : Nat → Int64) (k0_then : Nat → Int64) (k0_steps : Nat → Int32) (x6 : Int64) (x8 : Int32) (H : Heap) (locs : List Loc) (ls : Array Slot), fX6_value_L69 p1 p2 p3 p4 p5 n k0_one k0_poly k0_then k0_steps x6 x8 = some res → va_P G.1 vwCl (wdX6_value G q0 q0_one q0_other q0_third q0_waysTo q0_poly q0_then q0_steps q0_sheet q0_next q0_wide q0_partOf q0_partTimes q0_foundAt k0_one k0_poly k0_then k0_steps k0_isParted k0_parts k0_found) H → va_D A (wdX6_value G q0 q0_one q0_other q0_third q0_waysTo q0_poly q0_then q0_steps q0_sheet q0_next q0_wide q0_partOf q0_partTimes q0_foundAt k0_one k0_poly k0_then k0_steps k0_isParted k0_parts k0_found) → va_S A s.heap H locs → lv_has ls 9 [(0, .ref q0), (2, .int p2), (3, .int p3), (4, .int p4), (5, .int p5), (6, .long x6), (8, .int x8)] → glX6_value p l e s m args below meth c G A q0 q0_one q0_other q0_third q0_waysTo q0_poly q0_then q0_steps q0_sheet q0_next q0_wide q0_partOf q0_partTimes q0_foundAt k0_isParted k0_parts k0_found res H locs 69 ls [] := by
  obtain ⟨hx, hb, hml, hown, hts, hr, hlocks, hA, hG⟩ := id C
  induction n with
  | zero => intro k0_one k0_poly k0_then k0_steps x6 x8 H locs ls hf hP hD hS hl; cases hf
  | succ n ih =>
    intro k0_one k0_poly k0_then k0_steps x6 x8 H locs ls hf hP hD hS hl
    simp only [fX6_value_L69] at hf
    refine lv_iload hx hb dX6_value_69 (lv_at hl 6 rfl) ?_
    refine lv_sipush (v := (3024 : Int32)) hx hb dX6_value_71 (by decide) ?_
    refine lv_icmp_ge (tgt := 153) hx hb dX6_value_74 (by decide) (fun hc => ?_) (fun hc => ?_)
    · have hf := if_t hc hf
      refine lv_lload hx hb dX6_value_153 (lv_at hl 5 rfl) ?_
      cases hf
      exact rt_l C hP hD hS dX6_value_155
    · have hf := if_f hc hf
      refine lv_aload_n hx hb dX6_value_77 rfl (lv_at hl 0 rfl) ?_
      refine va_get (D := G.1) (ci := 6) (v := .ref q0_poly) (C := RX6) (T := TX6) (N := 16) hx hb hts nX6_value_X6 hown hG.1 hP 0 rfl rfl 4 (by decide) (hts _ mX6_value_0) (fun _ h9 => h9) rfl dX6_value_78 ?_
      refine lv_iload hx hb dX6_value_81 (lv_at hl 6 rfl) ?_
      obtain ⟨hin, hf⟩ := gJ_use hf
      refine va_lald hx hb hG.1 hP 2 1 rfl rfl hin dX6_value_83 ?_
      refine lv_lconst (v := (0 : Int64)) hx hb dX6_value_84 (by decide) ?_
      refine W.lcmp hx hb dX6_value_85 ?_
      refine lv_if_eq (tgt := 147) hx hb dX6_value_86 (by decide) (fun hc => ?_) (fun hc => ?_)
      · have hf := if_t hc hf
        obtain ⟨y2, ey2⟩ : ∃ z : Int32, z = x8 + (1 : Int32) := ⟨_, rfl⟩
        have hf := nm_use ey2 hf
        refine lv_iinc (v := y2) (lv' := [(8, .int y2), (0, .ref q0), (2, .int p2), (3, .int p3), (4, .int p4), (5, .int p5), (6, .long x6)]) hx hb dX6_value_147 hl (k := 6) rfl (by rw [ey2]; rfl) (by decide) rfl (fun ls hl => ?_)
        refine lv_goto (tgt := 69) hx hb dX6_value_150 (by decide) ?_
        exact ih k0_one k0_poly k0_then k0_steps x6 y2 _ _ ls hf hP hD hS (lv_sub hl [1, 2, 3, 4, 5, 6, 0] rfl)
      · have hf := if_f hc hf
        refine lv_lload hx hb dX6_value_89 (lv_at hl 5 rfl) ?_
        refine lv_aload_n hx hb dX6_value_91 rfl (lv_at hl 0 rfl) ?_
        refine va_get (D := G.1) (ci := 6) (v := .ref q0_poly) (C := RX6) (T := TX6) (N := 16) hx hb hts nX6_value_X6 hown hG.1 hP 0 rfl rfl 4 (by decide) (hts _ mX6_value_0) (fun _ h9 => h9) rfl dX6_value_92 ?_
        refine lv_iload hx hb dX6_value_95 (lv_at hl 6 rfl) ?_
        obtain ⟨hin, hf⟩ := gJ_use hf
        refine va_lald hx hb hG.1 hP 2 1 rfl rfl hin dX6_value_97 ?_
        refine lv_iload_n hx hb dX6_value_98 rfl (lv_at hl 1 rfl) ?_
        refine lv_iload hx hb dX6_value_99 (lv_at hl 6 rfl) ?_
        refine lv_iconst (v := (1 : Int32)) hx hb dX6_value_101 (by decide) ?_
        obtain ⟨r4, hr4, hf⟩ := bd_use hf
        refine cl_S (wn := (wdX6_value G q0 q0_one q0_other q0_third q0_waysTo q0_poly q0_then q0_steps q0_sheet q0_next q0_wide q0_partOf q0_partTimes q0_foundAt k0_one k0_poly k0_then k0_steps k0_isParted k0_parts k0_found)) (st1 := [.int r4, .int p2, .long (k0_poly (x8).toNatClampNeg), .long x6]) C hP hD hS (tX6_exponentAt l G x8 (1 : Int32) r4 hr4) (va_cwS 2 hts gX6_value_X6_exponentAt rfl rfl rfl (by decide +kernel) ⟨Nat.le_of_ble_eq_true rfl, Nat.le_of_ble_eq_true rfl⟩) [] [0, 1, 2, 3, 4] [0, 1, 2, 3, 4] rfl rfl rfl rfl (by decide) rfl rfl rfl hl.1 rfl rfl (Nat.le_of_ble_eq_true rfl) dX6_value_102 (fun H locs hP hD hS => ?_)
        obtain ⟨r5, hr5, hf⟩ := bd_use hf
        refine cl_S (wn := (wdX6_value G q0 q0_one q0_other q0_third q0_waysTo q0_poly q0_then q0_steps q0_sheet q0_next q0_wide q0_partOf q0_partTimes q0_foundAt k0_one k0_poly k0_then k0_steps k0_isParted k0_parts k0_found)) (st1 := [.long r5, .long (k0_poly (x8).toNatClampNeg), .long x6]) C hP hD hS (tX6_power l G p2 r4 r5 hr5) (va_cwS 2 hts gX6_value_X6_power rfl rfl rfl (by decide +kernel) ⟨Nat.le_of_ble_eq_true rfl, Nat.le_of_ble_eq_true rfl⟩) [] [0, 1, 2, 3, 4] [0, 1, 2, 3, 4] rfl rfl rfl rfl (by decide) rfl rfl rfl hl.1 rfl rfl (Nat.le_of_ble_eq_true rfl) dX6_value_105 (fun H locs hP hD hS => ?_)
        refine lv_lmul hx hb dX6_value_108 ?_
        refine lv_iload_n hx hb dX6_value_109 rfl (lv_at hl 2 rfl) ?_
        refine lv_iload hx hb dX6_value_110 (lv_at hl 6 rfl) ?_
        refine lv_iconst (v := (2 : Int32)) hx hb dX6_value_112 (by decide) ?_
        obtain ⟨r6, hr6, hf⟩ := bd_use hf
        refine cl_S (wn := (wdX6_value G q0 q0_one q0_other q0_third q0_waysTo q0_poly q0_then q0_steps q0_sheet q0_next q0_wide q0_partOf q0_partTimes q0_foundAt k0_one k0_poly k0_then k0_steps k0_isParted k0_parts k0_found)) (st1 := [.int r6, .int p3, .long ((k0_poly (x8).toNatClampNeg) * r5), .long x6]) C hP hD hS (tX6_exponentAt l G x8 (2 : Int32) r6 hr6) (va_cwS 2 hts gX6_value_X6_exponentAt rfl rfl rfl (by decide +kernel) ⟨Nat.le_of_ble_eq_true rfl, Nat.le_of_ble_eq_true rfl⟩) [] [0, 1, 2, 3, 4] [0, 1, 2, 3, 4] rfl rfl rfl rfl (by decide) rfl rfl rfl hl.1 rfl rfl (Nat.le_of_ble_eq_true rfl) dX6_value_113 (fun H locs hP hD hS => ?_)
        obtain ⟨r7, hr7, hf⟩ := bd_use hf
        refine cl_S (wn := (wdX6_value G q0 q0_one q0_other q0_third q0_waysTo q0_poly q0_then q0_steps q0_sheet q0_next q0_wide q0_partOf q0_partTimes q0_foundAt k0_one k0_poly k0_then k0_steps k0_isParted k0_parts k0_found)) (st1 := [.long r7, .long ((k0_poly (x8).toNatClampNeg) * r5), .long x6]) C hP hD hS (tX6_power l G p3 r6 r7 hr7) (va_cwS 2 hts gX6_value_X6_power rfl rfl rfl (by decide +kernel) ⟨Nat.le_of_ble_eq_true rfl, Nat.le_of_ble_eq_true rfl⟩) [] [0, 1, 2, 3, 4] [0, 1, 2, 3, 4] rfl rfl rfl rfl (by decide) rfl rfl rfl hl.1 rfl rfl (Nat.le_of_ble_eq_true rfl) dX6_value_116 (fun H locs hP hD hS => ?_)
        refine lv_lmul hx hb dX6_value_119 ?_
        refine lv_iload hx hb dX6_value_120 (lv_at hl 3 rfl) ?_
        refine lv_iload hx hb dX6_value_122 (lv_at hl 6 rfl) ?_
        refine lv_iconst (v := (3 : Int32)) hx hb dX6_value_124 (by decide) ?_
        obtain ⟨r8, hr8, hf⟩ := bd_use hf
        refine cl_S (wn := (wdX6_value G q0 q0_one q0_other q0_third q0_waysTo q0_poly q0_then q0_steps q0_sheet q0_next q0_wide q0_partOf q0_partTimes q0_foundAt k0_one k0_poly k0_then k0_steps k0_isParted k0_parts k0_found)) (st1 := [.int r8, .int p4, .long (((k0_poly (x8).toNatClampNeg) * r5) * r7), .long x6]) C hP hD hS (tX6_exponentAt l G x8 (3 : Int32) r8 hr8) (va_cwS 2 hts gX6_value_X6_exponentAt rfl rfl rfl (by decide +kernel) ⟨Nat.le_of_ble_eq_true rfl, Nat.le_of_ble_eq_true rfl⟩) [] [0, 1, 2, 3, 4] [0, 1, 2, 3, 4] rfl rfl rfl rfl (by decide) rfl rfl rfl hl.1 rfl rfl (Nat.le_of_ble_eq_true rfl) dX6_value_125 (fun H locs hP hD hS => ?_)
        obtain ⟨r9, hr9, hf⟩ := bd_use hf
        refine cl_S (wn := (wdX6_value G q0 q0_one q0_other q0_third q0_waysTo q0_poly q0_then q0_steps q0_sheet q0_next q0_wide q0_partOf q0_partTimes q0_foundAt k0_one k0_poly k0_then k0_steps k0_isParted k0_parts k0_found)) (st1 := [.long r9, .long (((k0_poly (x8).toNatClampNeg) * r5) * r7), .long x6]) C hP hD hS (tX6_power l G p4 r8 r9 hr9) (va_cwS 2 hts gX6_value_X6_power rfl rfl rfl (by decide +kernel) ⟨Nat.le_of_ble_eq_true rfl, Nat.le_of_ble_eq_true rfl⟩) [] [0, 1, 2, 3, 4] [0, 1, 2, 3, 4] rfl rfl rfl rfl (by decide) rfl rfl rfl hl.1 rfl rfl (Nat.le_of_ble_eq_true rfl) dX6_value_128 (fun H locs hP hD hS => ?_)
        refine lv_lmul hx hb dX6_value_131 ?_
        refine lv_iload hx hb dX6_value_132 (lv_at hl 4 rfl) ?_
        refine lv_iload hx hb dX6_value_134 (lv_at hl 6 rfl) ?_
        refine lv_iconst (v := (4 : Int32)) hx hb dX6_value_136 (by decide) ?_
        obtain ⟨r10, hr10, hf⟩ := bd_use hf
        refine cl_S (wn := (wdX6_value G q0 q0_one q0_other q0_third q0_waysTo q0_poly q0_then q0_steps q0_sheet q0_next q0_wide q0_partOf q0_partTimes q0_foundAt k0_one k0_poly k0_then k0_steps k0_isParted k0_parts k0_found)) (st1 := [.int r10, .int p5, .long ((((k0_poly (x8).toNatClampNeg) * r5) * r7) * r9), .long x6]) C hP hD hS (tX6_exponentAt l G x8 (4 : Int32) r10 hr10) (va_cwS 2 hts gX6_value_X6_exponentAt rfl rfl rfl (by decide +kernel) ⟨Nat.le_of_ble_eq_true rfl, Nat.le_of_ble_eq_true rfl⟩) [] [0, 1, 2, 3, 4] [0, 1, 2, 3, 4] rfl rfl rfl rfl (by decide) rfl rfl rfl hl.1 rfl rfl (Nat.le_of_ble_eq_true rfl) dX6_value_137 (fun H locs hP hD hS => ?_)
        obtain ⟨r11, hr11, hf⟩ := bd_use hf
        refine cl_S (wn := (wdX6_value G q0 q0_one q0_other q0_third q0_waysTo q0_poly q0_then q0_steps q0_sheet q0_next q0_wide q0_partOf q0_partTimes q0_foundAt k0_one k0_poly k0_then k0_steps k0_isParted k0_parts k0_found)) (st1 := [.long r11, .long ((((k0_poly (x8).toNatClampNeg) * r5) * r7) * r9), .long x6]) C hP hD hS (tX6_power l G p5 r10 r11 hr11) (va_cwS 2 hts gX6_value_X6_power rfl rfl rfl (by decide +kernel) ⟨Nat.le_of_ble_eq_true rfl, Nat.le_of_ble_eq_true rfl⟩) [] [0, 1, 2, 3, 4] [0, 1, 2, 3, 4] rfl rfl rfl rfl (by decide) rfl rfl rfl hl.1 rfl rfl (Nat.le_of_ble_eq_true rfl) dX6_value_140 (fun H locs hP hD hS => ?_)
        refine lv_lmul hx hb dX6_value_143 ?_
        refine lv_ladd hx hb dX6_value_144 ?_
        refine lv_topl (fun y12 ey12 => ?_)
        have hf := nm_use ey12 hf
        refine lv_lstore (lv' := [(6, .long y12), (0, .ref q0), (2, .int p2), (3, .int p3), (4, .int p4), (5, .int p5), (8, .int x8)]) hx hb dX6_value_145 hl (by decide) rfl (fun ls hl => ?_)
        obtain ⟨y13, ey13⟩ : ∃ z : Int32, z = x8 + (1 : Int32) := ⟨_, rfl⟩
        have hf := nm_use ey13 hf
        refine lv_iinc (v := y13) (lv' := [(8, .int y13), (6, .long y12), (0, .ref q0), (2, .int p2), (3, .int p3), (4, .int p4), (5, .int p5)]) hx hb dX6_value_147 hl (k := 6) rfl (by rw [ey13]; rfl) (by decide) rfl (fun ls hl => ?_)
        refine lv_goto (tgt := 69) hx hb dX6_value_150 (by decide) ?_
        exact ih k0_one k0_poly k0_then k0_steps y12 y13 _ _ ls hf hP hD hS (lv_sub hl [2, 3, 4, 5, 6, 1, 0] rfl)
set_option maxHeartbeats 4000000 in
set_option maxRecDepth 100000 in
theorem tX6_value (l : Launch) (G : GX) (q0 : Nat) (q0_one : Nat) (q0_other : Nat) (q0_third : Nat) (q0_waysTo : Nat) (q0_poly : Nat) (q0_then : Nat) (q0_steps : Nat) (q0_sheet : Nat) (q0_next : Nat) (q0_wide : Nat) (q0_partOf : Nat) (q0_partTimes : Nat) (q0_foundAt : Nat) (k0_one : Nat → Int32) (k0_poly : Nat → Int64) (k0_then : Nat → Int64) (k0_steps : Nat → Int32) (k0_isParted : Int32) (k0_parts : Int32) (k0_found : Int32) (p1 : Int32) (p2 : Int32) (p3 : Int32) (p4 : Int32) (p5 : Int32) (res : Int64 × (Nat → Int32) × (Nat → Int64) × (Nat → Int64) × (Nat → Int32)) (hf : fX6_value k0_one k0_poly k0_then k0_steps p1 p2 p3 p4 p5 = some res) : Ct l yX6_value wsX6_value rmX6_value G [.ref q0, .int p1, .int p2, .int p3, .int p4, .int p5] (wdX6_value G q0 q0_one q0_other q0_third q0_waysTo q0_poly q0_then q0_steps q0_sheet q0_next q0_wide q0_partOf q0_partTimes q0_foundAt k0_one k0_poly k0_then k0_steps k0_isParted k0_parts k0_found) (wdX6_value G q0 q0_one q0_other q0_third q0_waysTo q0_poly q0_then q0_steps q0_sheet q0_next q0_wide q0_partOf q0_partTimes q0_foundAt res.2.1 res.2.2.1 res.2.2.2.1 res.2.2.2.2 k0_isParted k0_parts k0_found) (some (.long res.1)) := by
  refine Ct.of (cc := cX6_value) (nL := 9) (ret := (some .long)) (by decide) rfl (Nat.le_of_ble_eq_true rfl) rfl ?_
  intro p e s m below meth c A ls C hP hD hl
  obtain ⟨hx, hb, hml, hown, hts, hr, hlocks, hA, hG⟩ := id C
  have hS : va_S A s.heap s.heap [] := va_S.rf
  unfold fX6_value at hf
  refine lv_iload_n hx hb dX6_value_0 rfl (lv_at hl 1 rfl) ?_
  refine lv_aload_n hx hb dX6_value_1 rfl (lv_at hl 0 rfl) ?_
  refine va_get (D := G.1) (ci := 6) (v := .ref q0_one) (C := RX6) (T := TX6) (N := 16) hx hb hts nX6_value_X6 hown hG.1 hP 0 rfl rfl 0 (by decide) (hts _ mX6_value_1) (fun _ h9 => h9) rfl dX6_value_2 ?_
  obtain ⟨r14, hr14, hf⟩ := bd_use hf
  refine cl_S (wn := (wdX6_value G q0 q0_one q0_other q0_third q0_waysTo q0_poly q0_then q0_steps q0_sheet q0_next q0_wide q0_partOf q0_partTimes q0_foundAt r14.2 k0_poly k0_then k0_steps k0_isParted k0_parts k0_found)) (st1 := [.int r14.1]) C hP hD hS (tX6_lays l G q0_one k0_one p1 r14 hr14) (va_cwS 2 hts gX6_value_X6_lays rfl rfl rfl (by decide +kernel) ⟨Nat.le_of_ble_eq_true rfl, Nat.le_of_ble_eq_true rfl⟩) [1] [0, 2, 3, 4] [0, 4, 1, 2, 3] rfl rfl rfl rfl (by decide) rfl rfl rfl hl.1 rfl rfl (Nat.le_of_ble_eq_true rfl) dX6_value_5 (fun H locs hP hD hS => ?_)
  refine lv_if_eq (tgt := 51) hx hb dX6_value_8 (by decide) (fun hc => ?_) (fun hc => ?_)
  · have hf := if_t hc hf
    refine lv_ldc2 (v := (-9223372036854775808 : Int64)) hx hb hown (hts _ mX6_value_2) dX6_value_51 ?_
    cases hf
    exact rt_l C hP hD hS dX6_value_54
  · have hf := if_f hc hf
    refine lv_iload_n hx hb dX6_value_11 rfl (lv_at hl 2 rfl) ?_
    obtain ⟨r15, hr15, hf⟩ := bd_use hf
    refine cl_S (wn := (wdX6_value G q0 q0_one q0_other q0_third q0_waysTo q0_poly q0_then q0_steps q0_sheet q0_next q0_wide q0_partOf q0_partTimes q0_foundAt r14.2 k0_poly k0_then k0_steps k0_isParted k0_parts k0_found)) (st1 := [.int r15]) C hP hD hS (tX6_isX l G p2 r15 hr15) (va_cwS 1 hts gX6_value_X6_isX rfl rfl rfl (by decide +kernel) ⟨Nat.le_of_ble_eq_true rfl, Nat.le_of_ble_eq_true rfl⟩) [] [0, 1, 2, 3, 4] [0, 1, 2, 3, 4] rfl rfl rfl rfl (by decide) rfl rfl rfl hl.1 rfl rfl (Nat.le_of_ble_eq_true rfl) dX6_value_12 (fun H locs hP hD hS => ?_)
    refine lv_if_eq (tgt := 51) hx hb dX6_value_15 (by decide) (fun hc => ?_) (fun hc => ?_)
    · have hf := if_t hc hf
      refine lv_ldc2 (v := (-9223372036854775808 : Int64)) hx hb hown (hts _ mX6_value_2) dX6_value_51 ?_
      cases hf
      exact rt_l C hP hD hS dX6_value_54
    · have hf := if_f hc hf
      refine lv_iload_n hx hb dX6_value_18 rfl (lv_at hl 3 rfl) ?_
      obtain ⟨r16, hr16, hf⟩ := bd_use hf
      refine cl_S (wn := (wdX6_value G q0 q0_one q0_other q0_third q0_waysTo q0_poly q0_then q0_steps q0_sheet q0_next q0_wide q0_partOf q0_partTimes q0_foundAt r14.2 k0_poly k0_then k0_steps k0_isParted k0_parts k0_found)) (st1 := [.int r16]) C hP hD hS (tX6_isX l G p3 r16 hr16) (va_cwS 1 hts gX6_value_X6_isX rfl rfl rfl (by decide +kernel) ⟨Nat.le_of_ble_eq_true rfl, Nat.le_of_ble_eq_true rfl⟩) [] [0, 1, 2, 3, 4] [0, 1, 2, 3, 4] rfl rfl rfl rfl (by decide) rfl rfl rfl hl.1 rfl rfl (Nat.le_of_ble_eq_true rfl) dX6_value_19 (fun H locs hP hD hS => ?_)
      refine lv_if_eq (tgt := 51) hx hb dX6_value_22 (by decide) (fun hc => ?_) (fun hc => ?_)
      · have hf := if_t hc hf
        refine lv_ldc2 (v := (-9223372036854775808 : Int64)) hx hb hown (hts _ mX6_value_2) dX6_value_51 ?_
        cases hf
        exact rt_l C hP hD hS dX6_value_54
      · have hf := if_f hc hf
        refine lv_iload hx hb dX6_value_25 (lv_at hl 4 rfl) ?_
        obtain ⟨r17, hr17, hf⟩ := bd_use hf
        refine cl_S (wn := (wdX6_value G q0 q0_one q0_other q0_third q0_waysTo q0_poly q0_then q0_steps q0_sheet q0_next q0_wide q0_partOf q0_partTimes q0_foundAt r14.2 k0_poly k0_then k0_steps k0_isParted k0_parts k0_found)) (st1 := [.int r17]) C hP hD hS (tX6_isX l G p4 r17 hr17) (va_cwS 1 hts gX6_value_X6_isX rfl rfl rfl (by decide +kernel) ⟨Nat.le_of_ble_eq_true rfl, Nat.le_of_ble_eq_true rfl⟩) [] [0, 1, 2, 3, 4] [0, 1, 2, 3, 4] rfl rfl rfl rfl (by decide) rfl rfl rfl hl.1 rfl rfl (Nat.le_of_ble_eq_true rfl) dX6_value_27 (fun H locs hP hD hS => ?_)
        refine lv_if_eq (tgt := 51) hx hb dX6_value_30 (by decide) (fun hc => ?_) (fun hc => ?_)
        · have hf := if_t hc hf
          refine lv_ldc2 (v := (-9223372036854775808 : Int64)) hx hb hown (hts _ mX6_value_2) dX6_value_51 ?_
          cases hf
          exact rt_l C hP hD hS dX6_value_54
        · have hf := if_f hc hf
          refine lv_iload hx hb dX6_value_33 (lv_at hl 5 rfl) ?_
          obtain ⟨r18, hr18, hf⟩ := bd_use hf
          refine cl_S (wn := (wdX6_value G q0 q0_one q0_other q0_third q0_waysTo q0_poly q0_then q0_steps q0_sheet q0_next q0_wide q0_partOf q0_partTimes q0_foundAt r14.2 k0_poly k0_then k0_steps k0_isParted k0_parts k0_found)) (st1 := [.int r18]) C hP hD hS (tX6_isX l G p5 r18 hr18) (va_cwS 1 hts gX6_value_X6_isX rfl rfl rfl (by decide +kernel) ⟨Nat.le_of_ble_eq_true rfl, Nat.le_of_ble_eq_true rfl⟩) [] [0, 1, 2, 3, 4] [0, 1, 2, 3, 4] rfl rfl rfl rfl (by decide) rfl rfl rfl hl.1 rfl rfl (Nat.le_of_ble_eq_true rfl) dX6_value_35 (fun H locs hP hD hS => ?_)
          refine lv_if_eq (tgt := 51) hx hb dX6_value_38 (by decide) (fun hc => ?_) (fun hc => ?_)
          · have hf := if_t hc hf
            refine lv_ldc2 (v := (-9223372036854775808 : Int64)) hx hb hown (hts _ mX6_value_2) dX6_value_51 ?_
            cases hf
            exact rt_l C hP hD hS dX6_value_54
          · have hf := if_f hc hf
            refine lv_aload_n hx hb dX6_value_41 rfl (lv_at hl 0 rfl) ?_
            refine va_get (D := G.1) (ci := 6) (v := .ref q0_one) (C := RX6) (T := TX6) (N := 16) hx hb hts nX6_value_X6 hown hG.1 hP 0 rfl rfl 0 (by decide) (hts _ mX6_value_1) (fun _ h9 => h9) rfl dX6_value_42 ?_
            obtain ⟨r19, hr19, hf⟩ := bd_use hf
            refine cl_S (wn := (wdX6_value G q0 q0_one q0_other q0_third q0_waysTo q0_poly q0_then q0_steps q0_sheet q0_next q0_wide q0_partOf q0_partTimes q0_foundAt r14.2 k0_poly k0_then k0_steps k0_isParted k0_parts k0_found)) (st1 := [.int r19]) C hP hD hS (tX6_isFit l G q0_one r14.2 r19 hr19) (va_cwS 1 hts gX6_value_X6_isFit rfl rfl rfl (by decide +kernel) ⟨Nat.le_of_ble_eq_true rfl, Nat.le_of_ble_eq_true rfl⟩) [1] [0, 2, 3, 4] [0, 4, 1, 2, 3] rfl rfl rfl rfl (by decide) rfl rfl rfl hl.1 rfl rfl (Nat.le_of_ble_eq_true rfl) dX6_value_45 (fun H locs hP hD hS => ?_)
            refine lv_if_ne (tgt := 55) hx hb dX6_value_48 (by decide) (fun hc => ?_) (fun hc => ?_)
            · have hf := if_f hc hf
              refine lv_aload_n hx hb dX6_value_55 rfl (lv_at hl 0 rfl) ?_
              refine lv_aload_n hx hb dX6_value_56 rfl (lv_at hl 0 rfl) ?_
              refine va_get (D := G.1) (ci := 6) (v := .ref q0_one) (C := RX6) (T := TX6) (N := 16) hx hb hts nX6_value_X6 hown hG.1 hP 0 rfl rfl 0 (by decide) (hts _ mX6_value_1) (fun _ h9 => h9) rfl dX6_value_57 ?_
              obtain ⟨r20, hr20, hf⟩ := bd_use hf
              refine cl_V (wn := (wdX6_value G q0 q0_one q0_other q0_third q0_waysTo q0_poly q0_then q0_steps q0_sheet q0_next q0_wide q0_partOf q0_partTimes q0_foundAt r20.2.2.2 r20.1 r20.2.1 r20.2.2.1 k0_isParted k0_parts k0_found)) (st1 := []) C hP hD hS (tX6_findS l G q0 q0_one q0_other q0_third q0_waysTo q0_poly q0_then q0_steps q0_sheet q0_next q0_wide q0_partOf q0_partTimes q0_foundAt q0_one k0_poly k0_then k0_steps k0_isParted k0_parts k0_found r14.2 r20 hr20) (cwV 1 hts gX6_value_X6_findS rfl rfl rfl (by decide +kernel) ⟨Nat.le_of_ble_eq_true rfl, Nat.le_of_ble_eq_true rfl⟩) [0, 2, 3, 4, 1] [] [0, 4, 1, 2, 3] rfl rfl rfl rfl (by decide) rfl rfl (ci := 6) (q0 := 0) rfl rfl rfl rfl hl.1 rfl rfl (Nat.le_of_ble_eq_true rfl) dX6_value_60 (fun H locs hP hD hS => ?_)
              refine lv_lconst (v := (0 : Int64)) hx hb dX6_value_63 (by decide) ?_
              refine lv_lstore (lv' := [(6, .long (0 : Int64)), (0, .ref q0), (1, .int p1), (2, .int p2), (3, .int p3), (4, .int p4), (5, .int p5)]) hx hb dX6_value_64 hl (by decide) rfl (fun ls hl => ?_)
              refine lv_iconst (v := (0 : Int32)) hx hb dX6_value_66 (by decide) ?_
              refine lv_istore (lv' := [(8, .int (0 : Int32)), (6, .long (0 : Int64)), (0, .ref q0), (1, .int p1), (2, .int p2), (3, .int p3), (4, .int p4), (5, .int p5)]) hx hb dX6_value_67 hl (by decide) rfl (fun ls hl => ?_)
              exact wX6_value_69 C q0 q0_one q0_other q0_third q0_waysTo q0_poly q0_then q0_steps q0_sheet q0_next q0_wide q0_partOf q0_partTimes q0_foundAt k0_isParted k0_parts k0_found p1 p2 p3 p4 p5 res fu r20.2.2.2 r20.1 r20.2.1 r20.2.2.1 (0 : Int64) (0 : Int32) _ _ ls hf hP hD hS (lv_sub hl [2, 4, 5, 6, 7, 1, 0] rfl)
            · have hf := if_t hc hf
              refine lv_ldc2 (v := (-9223372036854775808 : Int64)) hx hb hown (hts _ mX6_value_2) dX6_value_51 ?_
              cases hf
              exact rt_l C hP hD hS dX6_value_54
abbrev wdX6_becomes (G : GX) (q0 : Nat) (q0_one : Nat) (q0_other : Nat) (q0_third : Nat) (q0_waysTo : Nat) (q0_poly : Nat) (q0_then : Nat) (q0_steps : Nat) (q0_sheet : Nat) (q0_next : Nat) (q0_wide : Nat) (q0_partOf : Nat) (q0_partTimes : Nat) (q0_foundAt : Nat) (k0_sheet : Nat → Int64) (k0_next : Nat → Int64) (k0_isParted : Int32) (k0_parts : Int32) (k0_found : Int32) : va_W := [(q0, .inr (6, [.ref q0_one, .ref q0_other, .ref q0_third, .ref q0_waysTo, .ref q0_poly, .ref q0_then, .ref q0_steps, .ref q0_sheet, .ref q0_next, .int k0_isParted, .ref q0_wide, .int k0_parts, .ref q0_partOf, .ref q0_partTimes, .int k0_found, .ref q0_foundAt])), (q0_sheet, .inl (G.2.2.1, 3024, .inr (.inl k0_sheet))), (q0_next, .inl (G.2.2.1, 3024, .inr (.inl k0_next)))]
abbrev rmX6_becomes : Room := { frames := 1, cells := 0, slots := 0, locals := 22 }
abbrev glX6_becomes (p : Program) (l : Launch) (e : Env) (s : State) (m : MethodId) (args : Array Value) (below : List Frame) (meth : Method) (c : Code) (G : GX) (A : Nat → Prop) (q0 : Nat) (q0_one : Nat) (q0_other : Nat) (q0_third : Nat) (q0_waysTo : Nat) (q0_poly : Nat) (q0_then : Nat) (q0_steps : Nat) (q0_sheet : Nat) (q0_next : Nat) (q0_wide : Nat) (q0_partOf : Nat) (q0_partTimes : Nat) (q0_foundAt : Nat) (k0_next : Nat → Int64) (k0_parts : Int32) (k0_found : Int32) (res : Int32 × (Nat → Int64) × Int32) (H : Heap) (locs : List Loc) (pc : Nat) (ls : Array Slot) (st : List Value) : Prop := W p l e rmX6_becomes s m args below meth c H locs 0 0 (MQ below (ctQ G A (wdX6_becomes G q0 q0_one q0_other q0_third q0_waysTo q0_poly q0_then q0_steps q0_sheet q0_next q0_wide q0_partOf q0_partTimes q0_foundAt res.2.1 k0_next res.2.2 k0_parts k0_found) (some (.int res.1))) args s 0 0 A) (F0 m pc ls st)
set_option maxRecDepth 20000 in
theorem mX6_becomes_0 : Cond.fieldLink RX6 144 "SchubertDeskModel" "isParted" "Z" ∈ wsX6_becomes := by decide +kernel
set_option maxRecDepth 20000 in
theorem mX6_becomes_1 : Cond.fieldLink RX6 32 "SchubertDeskModel" "sheet" "[J" ∈ wsX6_becomes := by decide +kernel
set_option maxRecDepth 20000 in
theorem mX6_becomes_2 : Cond.fieldLink RX6 35 "SchubertDeskModel" "next" "[J" ∈ wsX6_becomes := by decide +kernel
set_option maxRecDepth 20000 in
theorem mX6_becomes_3 : Cond.constantLong RX6 140 (1000000000) ∈ wsX6_becomes := by decide +kernel
set_option maxRecDepth 20000 in
theorem mX6_becomes_4 : Cond.constantLong RX6 142 (-1000000000) ∈ wsX6_becomes := by decide +kernel
set_option maxRecDepth 20000 in
theorem nX6_becomes_X6 : ∀ w ∈ u_ws RX6 TX6 16, w ∈ wsX6_becomes := by decide +kernel
set_option maxHeartbeats 4000000 in
set_option maxRecDepth 100000 in
theorem wX6_becomes_46 {p : Program} {l : Launch} {e : Env} {s : State} {m : MethodId} {args : Array Value} {below : List Frame} {meth : Method} {c : Code} {G : GX} {A : Nat → Prop} (C : Cx p s m args meth c cX6_becomes 2 (some .int) wsX6_becomes RX6 G A) (q0 : Nat) (q0_one : Nat) (q0_other : Nat) (q0_third : Nat) (q0_waysTo : Nat) (q0_poly : Nat) (q0_then : Nat) (q0_steps : Nat) (q0_sheet : Nat) (q0_next : Nat) (q0_wide : Nat) (q0_partOf : Nat) (q0_partTimes : Nat) (q0_foundAt : Nat) (k0_next : Nat → Int64) (k0_parts : Int32) (k0_found : Int32) (res : Int32 × (Nat → Int64) × Int32) (n : Nat) : ∀ (k0_sheet : Nat → Int64) (k0_isParted : Int32) (x1 : Int32) (H : Heap) (locs : List Loc) (ls : Array Slot), fX6_becomes_L46 k0_next n k0_sheet k0_isParted x1 = some res → va_P G.1 vwCl (wdX6_becomes G q0 q0_one q0_other q0_third q0_waysTo q0_poly q0_then q0_steps q0_sheet q0_next q0_wide q0_partOf q0_partTimes q0_foundAt k0_sheet k0_next k0_isParted k0_parts k0_found) H → va_D A (wdX6_becomes G q0 q0_one q0_other q0_third q0_waysTo q0_poly q0_then q0_steps q0_sheet q0_next q0_wide q0_partOf q0_partTimes q0_foundAt k0_sheet k0_next k0_isParted k0_parts k0_found) → va_S A s.heap H locs → lv_has ls 2 [(0, .ref q0), (1, .int x1)] → glX6_becomes p l e s m args below meth c G A q0 q0_one q0_other q0_third q0_waysTo q0_poly q0_then q0_steps q0_sheet q0_next q0_wide q0_partOf q0_partTimes q0_foundAt k0_next k0_parts k0_found res H locs 46 ls [] := by
  obtain ⟨hx, hb, hml, hown, hts, hr, hlocks, hA, hG⟩ := id C
  induction n with
  | zero => intro k0_sheet k0_isParted x1 H locs ls hf hP hD hS hl; cases hf
  | succ n ih =>
    intro k0_sheet k0_isParted x1 H locs ls hf hP hD hS hl
    simp only [fX6_becomes_L46] at hf
    refine lv_iload_n hx hb dX6_becomes_46 rfl (lv_at hl 1 rfl) ?_
    refine lv_sipush (v := (3024 : Int32)) hx hb dX6_becomes_47 (by decide) ?_
    refine lv_icmp_ge (tgt := 71) hx hb dX6_becomes_50 (by decide) (fun hc => ?_) (fun hc => ?_)
    · have hf := if_t hc hf
      refine lv_aload_n hx hb dX6_becomes_71 rfl (lv_at hl 0 rfl) ?_
      refine lv_iconst (v := (0 : Int32)) hx hb dX6_becomes_72 (by decide) ?_
      refine va_put (D := G.1) (ci := 6) (v := .int (0 : Int32)) (ty := .boolean) (C := RX6) (T := TX6) (N := 16) hx hb hts nX6_becomes_X6 tyX6 tyX6_ok nmX6 hown hG.1 hP hD hS 0 rfl rfl 9 (by decide) (hts _ mX6_becomes_0) (fun _ h9 => h9) rfl (by decide +kernel) rfl rfl (Nat.le_of_ble_eq_true rfl) dX6_becomes_73 (fun H locs hP hD hS => ?_)
      have hP : va_P G.1 vwCl (wdX6_becomes G q0 q0_one q0_other q0_third q0_waysTo q0_poly q0_then q0_steps q0_sheet q0_next q0_wide q0_partOf q0_partTimes q0_foundAt k0_sheet k0_next (0 : Int32) k0_parts k0_found) H := hP
      have hD : va_D A (wdX6_becomes G q0 q0_one q0_other q0_third q0_waysTo q0_poly q0_then q0_steps q0_sheet q0_next q0_wide q0_partOf q0_partTimes q0_foundAt k0_sheet k0_next (0 : Int32) k0_parts k0_found) := hD
      refine lv_aload_n hx hb dX6_becomes_76 rfl (lv_at hl 0 rfl) ?_
      refine va_get (D := G.1) (ci := 6) (v := .ref q0_sheet) (C := RX6) (T := TX6) (N := 16) hx hb hts nX6_becomes_X6 hown hG.1 hP 0 rfl rfl 7 (by decide) (hts _ mX6_becomes_1) (fun _ h9 => h9) rfl dX6_becomes_77 ?_
      obtain ⟨r1, hr1, hf⟩ := bd_use hf
      refine cl_S (wn := (wdX6_becomes G q0 q0_one q0_other q0_third q0_waysTo q0_poly q0_then q0_steps q0_sheet q0_next q0_wide q0_partOf q0_partTimes q0_foundAt k0_sheet k0_next (0 : Int32) k0_parts k0_found)) (st1 := [.int r1]) C hP hD hS (tX6_termsOf l G q0_sheet k0_sheet r1 hr1) (va_cwS 1 hts gX6_becomes_X6_termsOf rfl rfl rfl (by decide +kernel) ⟨Nat.le_of_ble_eq_true rfl, Nat.le_of_ble_eq_true rfl⟩) [1] [0, 2] [0, 2, 1] rfl rfl rfl rfl (by decide) rfl rfl rfl hl.1 rfl rfl (Nat.le_of_ble_eq_true rfl) dX6_becomes_80 (fun H locs hP hD hS => ?_)
      cases hf
      exact rt_i C hP hD hS dX6_becomes_83
    · have hf := if_f hc hf
      refine lv_aload_n hx hb dX6_becomes_53 rfl (lv_at hl 0 rfl) ?_
      refine va_get (D := G.1) (ci := 6) (v := .ref q0_sheet) (C := RX6) (T := TX6) (N := 16) hx hb hts nX6_becomes_X6 hown hG.1 hP 0 rfl rfl 7 (by decide) (hts _ mX6_becomes_1) (fun _ h9 => h9) rfl dX6_becomes_54 ?_
      refine lv_iload_n hx hb dX6_becomes_57 rfl (lv_at hl 1 rfl) ?_
      refine lv_aload_n hx hb dX6_becomes_58 rfl (lv_at hl 0 rfl) ?_
      refine va_get (D := G.1) (ci := 6) (v := .ref q0_next) (C := RX6) (T := TX6) (N := 16) hx hb hts nX6_becomes_X6 hown hG.1 hP 0 rfl rfl 8 (by decide) (hts _ mX6_becomes_2) (fun _ h9 => h9) rfl dX6_becomes_59 ?_
      refine lv_iload_n hx hb dX6_becomes_62 rfl (lv_at hl 1 rfl) ?_
      obtain ⟨hin, hf⟩ := gJ_use hf
      refine va_lald hx hb hG.1 hP 2 1 rfl rfl hin dX6_becomes_63 ?_
      obtain ⟨hin, hf⟩ := pJ_use hf
      refine va_last hx hb hG.1 hP hD hS 1 1 rfl rfl hin dX6_becomes_64 (fun H locs hP hD hS => ?_)
      have hP : va_P G.1 vwCl (wdX6_becomes G q0 q0_one q0_other q0_third q0_waysTo q0_poly q0_then q0_steps q0_sheet q0_next q0_wide q0_partOf q0_partTimes q0_foundAt (vp_updL k0_sheet (x1).toNatClampNeg (k0_next (x1).toNatClampNeg)) k0_next k0_isParted k0_parts k0_found) H := hP
      have hD : va_D A (wdX6_becomes G q0 q0_one q0_other q0_third q0_waysTo q0_poly q0_then q0_steps q0_sheet q0_next q0_wide q0_partOf q0_partTimes q0_foundAt (vp_updL k0_sheet (x1).toNatClampNeg (k0_next (x1).toNatClampNeg)) k0_next k0_isParted k0_parts k0_found) := hD
      obtain ⟨y4, ey4⟩ : ∃ z : Int32, z = x1 + (1 : Int32) := ⟨_, rfl⟩
      have hf := nm_use ey4 hf
      refine lv_iinc (v := y4) (lv' := [(1, .int y4), (0, .ref q0)]) hx hb dX6_becomes_65 hl (k := 1) rfl (by rw [ey4]; rfl) (by decide) rfl (fun ls hl => ?_)
      refine lv_goto (tgt := 46) hx hb dX6_becomes_68 (by decide) ?_
      exact ih (vp_updL k0_sheet (x1).toNatClampNeg (k0_next (x1).toNatClampNeg)) k0_isParted y4 _ _ ls hf hP hD hS (lv_sub hl [1, 0] rfl)
set_option maxHeartbeats 4000000 in
set_option maxRecDepth 100000 in
theorem wX6_becomes_2 {p : Program} {l : Launch} {e : Env} {s : State} {m : MethodId} {args : Array Value} {below : List Frame} {meth : Method} {c : Code} {G : GX} {A : Nat → Prop} (C : Cx p s m args meth c cX6_becomes 2 (some .int) wsX6_becomes RX6 G A) (q0 : Nat) (q0_one : Nat) (q0_other : Nat) (q0_third : Nat) (q0_waysTo : Nat) (q0_poly : Nat) (q0_then : Nat) (q0_steps : Nat) (q0_sheet : Nat) (q0_next : Nat) (q0_wide : Nat) (q0_partOf : Nat) (q0_partTimes : Nat) (q0_foundAt : Nat) (k0_next : Nat → Int64) (k0_parts : Int32) (k0_found : Int32) (res : Int32 × (Nat → Int64) × Int32) (n : Nat) : ∀ (k0_sheet : Nat → Int64) (k0_isParted : Int32) (x1 : Int32) (H : Heap) (locs : List Loc) (ls : Array Slot), fX6_becomes_L2 k0_next n k0_sheet k0_isParted x1 = some res → va_P G.1 vwCl (wdX6_becomes G q0 q0_one q0_other q0_third q0_waysTo q0_poly q0_then q0_steps q0_sheet q0_next q0_wide q0_partOf q0_partTimes q0_foundAt k0_sheet k0_next k0_isParted k0_parts k0_found) H → va_D A (wdX6_becomes G q0 q0_one q0_other q0_third q0_waysTo q0_poly q0_then q0_steps q0_sheet q0_next q0_wide q0_partOf q0_partTimes q0_foundAt k0_sheet k0_next k0_isParted k0_parts k0_found) → va_S A s.heap H locs → lv_has ls 2 [(0, .ref q0), (1, .int x1)] → glX6_becomes p l e s m args below meth c G A q0 q0_one q0_other q0_third q0_waysTo q0_poly q0_then q0_steps q0_sheet q0_next q0_wide q0_partOf q0_partTimes q0_foundAt k0_next k0_parts k0_found res H locs 2 ls [] := by
  obtain ⟨hx, hb, hml, hown, hts, hr, hlocks, hA, hG⟩ := id C
  induction n with
  | zero => intro k0_sheet k0_isParted x1 H locs ls hf hP hD hS hl; cases hf
  | succ n ih =>
    intro k0_sheet k0_isParted x1 H locs ls hf hP hD hS hl
    simp only [fX6_becomes_L2] at hf
    refine lv_iload_n hx hb dX6_becomes_2 rfl (lv_at hl 1 rfl) ?_
    refine lv_sipush (v := (3024 : Int32)) hx hb dX6_becomes_3 (by decide) ?_
    refine lv_icmp_ge (tgt := 44) hx hb dX6_becomes_6 (by decide) (fun hc => ?_) (fun hc => ?_)
    · have hf := if_t hc hf
      refine lv_iconst (v := (0 : Int32)) hx hb dX6_becomes_44 (by decide) ?_
      refine lv_istore_n (lv' := [(1, .int (0 : Int32)), (0, .ref q0)]) hx hb dX6_becomes_45 rfl hl (by decide) rfl (fun ls hl => ?_)
      exact wX6_becomes_46 C q0 q0_one q0_other q0_third q0_waysTo q0_poly q0_then q0_steps q0_sheet q0_next q0_wide q0_partOf q0_partTimes q0_foundAt k0_next k0_parts k0_found res fu k0_sheet k0_isParted (0 : Int32) _ _ ls hf hP hD hS (lv_sub hl [1, 0] rfl)
    · have hf := if_f hc hf
      refine lv_aload_n hx hb dX6_becomes_9 rfl (lv_at hl 0 rfl) ?_
      refine va_get (D := G.1) (ci := 6) (v := .ref q0_next) (C := RX6) (T := TX6) (N := 16) hx hb hts nX6_becomes_X6 hown hG.1 hP 0 rfl rfl 8 (by decide) (hts _ mX6_becomes_2) (fun _ h9 => h9) rfl dX6_becomes_10 ?_
      refine lv_iload_n hx hb dX6_becomes_13 rfl (lv_at hl 1 rfl) ?_
      obtain ⟨hin, hf⟩ := gJ_use hf
      refine va_lald hx hb hG.1 hP 2 1 rfl rfl hin dX6_becomes_14 ?_
      refine lv_ldc2 (v := (1000000000 : Int64)) hx hb hown (hts _ mX6_becomes_3) dX6_becomes_15 ?_
      refine W.lcmp hx hb dX6_becomes_18 ?_
      refine lv_if_gt (tgt := 35) hx hb dX6_becomes_19 (by decide) (fun hc => ?_) (fun hc => ?_)
      · have hf := if_t hc hf
        refine lv_bipush (v := (-5 : Int32)) hx hb dX6_becomes_35 (by decide) ?_
        cases hf
        exact rt_i C hP hD hS dX6_becomes_37
      · have hf := if_f hc hf
        refine lv_aload_n hx hb dX6_becomes_22 rfl (lv_at hl 0 rfl) ?_
        refine va_get (D := G.1) (ci := 6) (v := .ref q0_next) (C := RX6) (T := TX6) (N := 16) hx hb hts nX6_becomes_X6 hown hG.1 hP 0 rfl rfl 8 (by decide) (hts _ mX6_becomes_2) (fun _ h9 => h9) rfl dX6_becomes_23 ?_
        refine lv_iload_n hx hb dX6_becomes_26 rfl (lv_at hl 1 rfl) ?_
        obtain ⟨hin, hf⟩ := gJ_use hf
        refine va_lald hx hb hG.1 hP 2 1 rfl rfl hin dX6_becomes_27 ?_
        refine lv_ldc2 (v := (-1000000000 : Int64)) hx hb hown (hts _ mX6_becomes_4) dX6_becomes_28 ?_
        refine W.lcmp hx hb dX6_becomes_31 ?_
        refine lv_if_ge (tgt := 38) hx hb dX6_becomes_32 (by decide) (fun hc => ?_) (fun hc => ?_)
        · have hf := if_t hc hf
          obtain ⟨y7, ey7⟩ : ∃ z : Int32, z = x1 + (1 : Int32) := ⟨_, rfl⟩
          have hf := nm_use ey7 hf
          refine lv_iinc (v := y7) (lv' := [(1, .int y7), (0, .ref q0)]) hx hb dX6_becomes_38 hl (k := 1) rfl (by rw [ey7]; rfl) (by decide) rfl (fun ls hl => ?_)
          refine lv_goto (tgt := 2) hx hb dX6_becomes_41 (by decide) ?_
          exact ih k0_sheet k0_isParted y7 _ _ ls hf hP hD hS (lv_sub hl [1, 0] rfl)
        · have hf := if_f hc hf
          refine lv_bipush (v := (-5 : Int32)) hx hb dX6_becomes_35 (by decide) ?_
          cases hf
          exact rt_i C hP hD hS dX6_becomes_37
set_option maxHeartbeats 4000000 in
set_option maxRecDepth 100000 in
theorem tX6_becomes (l : Launch) (G : GX) (q0 : Nat) (q0_one : Nat) (q0_other : Nat) (q0_third : Nat) (q0_waysTo : Nat) (q0_poly : Nat) (q0_then : Nat) (q0_steps : Nat) (q0_sheet : Nat) (q0_next : Nat) (q0_wide : Nat) (q0_partOf : Nat) (q0_partTimes : Nat) (q0_foundAt : Nat) (k0_sheet : Nat → Int64) (k0_next : Nat → Int64) (k0_isParted : Int32) (k0_parts : Int32) (k0_found : Int32) (res : Int32 × (Nat → Int64) × Int32) (hf : fX6_becomes k0_sheet k0_next k0_isParted = some res) : Ct l yX6_becomes wsX6_becomes rmX6_becomes G [.ref q0] (wdX6_becomes G q0 q0_one q0_other q0_third q0_waysTo q0_poly q0_then q0_steps q0_sheet q0_next q0_wide q0_partOf q0_partTimes q0_foundAt k0_sheet k0_next k0_isParted k0_parts k0_found) (wdX6_becomes G q0 q0_one q0_other q0_third q0_waysTo q0_poly q0_then q0_steps q0_sheet q0_next q0_wide q0_partOf q0_partTimes q0_foundAt res.2.1 k0_next res.2.2 k0_parts k0_found) (some (.int res.1)) := by
  refine Ct.of (cc := cX6_becomes) (nL := 2) (ret := (some .int)) (by decide) rfl (Nat.le_of_ble_eq_true rfl) rfl ?_
  intro p e s m below meth c A ls C hP hD hl
  obtain ⟨hx, hb, hml, hown, hts, hr, hlocks, hA, hG⟩ := id C
  have hS : va_S A s.heap s.heap [] := va_S.rf
  unfold fX6_becomes at hf
  refine lv_iconst (v := (0 : Int32)) hx hb dX6_becomes_0 (by decide) ?_
  refine lv_istore_n (lv' := [(1, .int (0 : Int32)), (0, .ref q0)]) hx hb dX6_becomes_1 rfl hl (by decide) rfl (fun ls hl => ?_)
  exact wX6_becomes_2 C q0 q0_one q0_other q0_third q0_waysTo q0_poly q0_then q0_steps q0_sheet q0_next q0_wide q0_partOf q0_partTimes q0_foundAt k0_next k0_parts k0_found res fu k0_sheet k0_isParted (0 : Int32) _ _ ls hf hP hD hS (lv_sub hl [1, 0] rfl)
