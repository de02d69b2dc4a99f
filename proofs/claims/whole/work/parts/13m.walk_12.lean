abbrev wdX6_manyFrom (G : GX) (q0 : Nat) (k0 : Nat → Int32) : va_W := [(q0, .inl (G.2.1, 10, .inl k0))]
abbrev rmX6_manyFrom : Room := { frames := 0, cells := 0, slots := 0, locals := 0 }
abbrev glX6_manyFrom (p : Program) (l : Launch) (e : Env) (s : State) (m : MethodId) (args : Array Value) (below : List Frame) (meth : Method) (c : Code) (G : GX) (A : Nat → Prop) (q0 : Nat) (k0 : Nat → Int32) (res : Int32) (H : Heap) (locs : List Loc) (pc : Nat) (ls : Array Slot) (st : List Value) : Prop := W p l e rmX6_manyFrom s m args below meth c H locs 0 0 (MQ below (ctQ G A (wdX6_manyFrom G q0 k0) (some (.int res))) args s 0 0 A) (F0 m pc ls st)
set_option maxHeartbeats 4000000 in
set_option maxRecDepth 100000 in
theorem wX6_manyFrom_5 {p : Program} {l : Launch} {e : Env} {s : State} {m : MethodId} {args : Array Value} {below : List Frame} {meth : Method} {c : Code} {G : GX} {A : Nat → Prop} (C : Cx p s m args meth c cX6_manyFrom 5 (some .int) wsX6_manyFrom RX6 G A) (q0 : Nat) (k0 : Nat → Int32) (p1 : Int32) (p2 : Int32) (res : Int32) (n : Nat) : ∀ (x3 : Int32) (x4 : Int32) (H : Heap) (locs : List Loc) (ls : Array Slot), fX6_manyFrom_L5 k0 p1 p2 n x3 x4 = some res → va_P G.1 vwCl (wdX6_manyFrom G q0 k0) H → va_D A (wdX6_manyFrom G q0 k0) → va_S A s.heap H locs → lv_has ls 5 [(0, .ref q0), (1, .int p1), (2, .int p2), (3, .int x3), (4, .int x4)] → glX6_manyFrom p l e s m args below meth c G A q0 k0 res H locs 5 ls [] := by
  obtain ⟨hx, hb, hml, hown, hts, hr, hlocks, hA, hG⟩ := id C
  induction n with
  | zero => intro x3 x4 H locs ls hf hP hD hS hl; cases hf
  | succ n ih =>
    intro x3 x4 H locs ls hf hP hD hS hl
    simp only [fX6_manyFrom_L5] at hf
    refine lv_iload hx hb dX6_manyFrom_5 (lv_at hl 4 rfl) ?_
    refine lv_iload_n hx hb dX6_manyFrom_7 rfl (lv_at hl 1 rfl) ?_
    refine lv_icmp_gt (tgt := 33) hx hb dX6_manyFrom_8 (by decide) (fun hc => ?_) (fun hc => ?_)
    · have hf := if_t hc hf
      refine lv_iload_n hx hb dX6_manyFrom_33 rfl (lv_at hl 3 rfl) ?_
      cases hf
      exact rt_i C hP hD hS dX6_manyFrom_34
    · have hf := if_f hc hf
      refine lv_iload_n hx hb dX6_manyFrom_11 rfl (lv_at hl 3 rfl) ?_
      refine lv_aload_n hx hb dX6_manyFrom_12 rfl (lv_at hl 0 rfl) ?_
      refine lv_iload hx hb dX6_manyFrom_13 (lv_at hl 4 rfl) ?_
      obtain ⟨hin, hf⟩ := gI_use hf
      refine va_iald hx hb hG.1 hP 0 0 rfl rfl hin dX6_manyFrom_15 ?_
      refine lv_iload_n hx hb dX6_manyFrom_16 rfl (lv_at hl 2 rfl) ?_
      refine lv_icmp_lt (tgt := 24) hx hb dX6_manyFrom_17 (by decide) (fun hc => ?_) (fun hc => ?_)
      · have hf := if_t hc hf
        refine lv_iconst (v := (0 : Int32)) hx hb dX6_manyFrom_24 (by decide) ?_
        refine lv_iadd hx hb dX6_manyFrom_25 ?_
        refine lv_topi (fun y2 ey2 => ?_)
        have hf := nm_use ey2 hf
        refine lv_istore_n (lv' := [(3, .int y2), (0, .ref q0), (1, .int p1), (2, .int p2), (4, .int x4)]) hx hb dX6_manyFrom_26 rfl hl (by decide) rfl (fun ls hl => ?_)
        obtain ⟨y3, ey3⟩ : ∃ z : Int32, z = x4 + (1 : Int32) := ⟨_, rfl⟩
        have hf := nm_use ey3 hf
        refine lv_iinc (v := y3) (lv' := [(4, .int y3), (3, .int y2), (0, .ref q0), (1, .int p1), (2, .int p2)]) hx hb dX6_manyFrom_27 hl (k := 4) rfl (by rw [ey3]; rfl) (by decide) rfl (fun ls hl => ?_)
        refine lv_goto (tgt := 5) hx hb dX6_manyFrom_30 (by decide) ?_
        exact ih y2 y3 _ _ ls hf hP hD hS (lv_sub hl [2, 3, 4, 1, 0] rfl)
      · have hf := if_f hc hf
        refine lv_iconst (v := (1 : Int32)) hx hb dX6_manyFrom_20 (by decide) ?_
        refine lv_goto (tgt := 25) hx hb dX6_manyFrom_21 (by decide) ?_
        refine lv_iadd hx hb dX6_manyFrom_25 ?_
        refine lv_topi (fun y4 ey4 => ?_)
        have hf := nm_use ey4 hf
        refine lv_istore_n (lv' := [(3, .int y4), (0, .ref q0), (1, .int p1), (2, .int p2), (4, .int x4)]) hx hb dX6_manyFrom_26 rfl hl (by decide) rfl (fun ls hl => ?_)
        obtain ⟨y5, ey5⟩ : ∃ z : Int32, z = x4 + (1 : Int32) := ⟨_, rfl⟩
        have hf := nm_use ey5 hf
        refine lv_iinc (v := y5) (lv' := [(4, .int y5), (3, .int y4), (0, .ref q0), (1, .int p1), (2, .int p2)]) hx hb dX6_manyFrom_27 hl (k := 4) rfl (by rw [ey5]; rfl) (by decide) rfl (fun ls hl => ?_)
        refine lv_goto (tgt := 5) hx hb dX6_manyFrom_30 (by decide) ?_
        exact ih y4 y5 _ _ ls hf hP hD hS (lv_sub hl [2, 3, 4, 1, 0] rfl)
set_option maxHeartbeats 4000000 in
set_option maxRecDepth 100000 in
theorem tX6_manyFrom (l : Launch) (G : GX) (q0 : Nat) (k0 : Nat → Int32) (p1 : Int32) (p2 : Int32) (res : Int32) (hf : fX6_manyFrom k0 p1 p2 = some res) : Ct l yX6_manyFrom wsX6_manyFrom rmX6_manyFrom G [.ref q0, .int p1, .int p2] (wdX6_manyFrom G q0 k0) (wdX6_manyFrom G q0 k0) (some (.int res)) := by
  refine Ct.of (cc := cX6_manyFrom) (nL := 5) (ret := (some .int)) (by decide) rfl (Nat.le_of_ble_eq_true rfl) rfl ?_
  intro p e s m below meth c A ls C hP hD hl
  obtain ⟨hx, hb, hml, hown, hts, hr, hlocks, hA, hG⟩ := id C
  have hS : va_S A s.heap s.heap [] := va_S.rf
  unfold fX6_manyFrom at hf
  refine lv_iconst (v := (0 : Int32)) hx hb dX6_manyFrom_0 (by decide) ?_
  refine lv_istore_n (lv' := [(3, .int (0 : Int32)), (0, .ref q0), (1, .int p1), (2, .int p2)]) hx hb dX6_manyFrom_1 rfl hl (by decide) rfl (fun ls hl => ?_)
  refine lv_iconst (v := (1 : Int32)) hx hb dX6_manyFrom_2 (by decide) ?_
  refine lv_istore (lv' := [(4, .int (1 : Int32)), (3, .int (0 : Int32)), (0, .ref q0), (1, .int p1), (2, .int p2)]) hx hb dX6_manyFrom_3 hl (by decide) rfl (fun ls hl => ?_)
  exact wX6_manyFrom_5 C q0 k0 p1 p2 res fu (0 : Int32) (1 : Int32) _ _ ls hf hP hD hS (lv_sub hl [2, 3, 4, 1, 0] rfl)
abbrev wdX6_below (G : GX) (q0 : Nat) (q0_one : Nat) (q0_other : Nat) (q0_third : Nat) (q0_waysTo : Nat) (q0_poly : Nat) (q0_then : Nat) (q0_steps : Nat) (q0_sheet : Nat) (q0_next : Nat) (q0_wide : Nat) (q0_partOf : Nat) (q0_partTimes : Nat) (q0_foundAt : Nat) (k0_one : Nat → Int32) (k0_other : Nat → Int32) (k0_isParted : Int32) (k0_parts : Int32) (k0_found : Int32) : va_W := [(q0, .inr (6, [.ref q0_one, .ref q0_other, .ref q0_third, .ref q0_waysTo, .ref q0_poly, .ref q0_then, .ref q0_steps, .ref q0_sheet, .ref q0_next, .int k0_isParted, .ref q0_wide, .int k0_parts, .ref q0_partOf, .ref q0_partTimes, .int k0_found, .ref q0_foundAt])), (q0_one, .inl (G.2.1, 10, .inl k0_one)), (q0_other, .inl (G.2.1, 10, .inl k0_other))]
abbrev rmX6_below : Room := { frames := 2, cells := 0, slots := 0, locals := 48 }
abbrev glX6_below (p : Program) (l : Launch) (e : Env) (s : State) (m : MethodId) (args : Array Value) (below : List Frame) (meth : Method) (c : Code) (G : GX) (A : Nat → Prop) (q0 : Nat) (q0_one : Nat) (q0_other : Nat) (q0_third : Nat) (q0_waysTo : Nat) (q0_poly : Nat) (q0_then : Nat) (q0_steps : Nat) (q0_sheet : Nat) (q0_next : Nat) (q0_wide : Nat) (q0_partOf : Nat) (q0_partTimes : Nat) (q0_foundAt : Nat) (k0_isParted : Int32) (k0_parts : Int32) (k0_found : Int32) (res : Int32 × (Nat → Int32) × (Nat → Int32)) (H : Heap) (locs : List Loc) (pc : Nat) (ls : Array Slot) (st : List Value) : Prop := W p l e rmX6_below s m args below meth c H locs 0 0 (MQ below (ctQ G A (wdX6_below G q0 q0_one q0_other q0_third q0_waysTo q0_poly q0_then q0_steps q0_sheet q0_next q0_wide q0_partOf q0_partTimes q0_foundAt res.2.1 res.2.2 k0_isParted k0_parts k0_found) (some (.int res.1))) args s 0 0 A) (F0 m pc ls st)
set_option maxRecDepth 20000 in
theorem mX6_below_0 : Cond.fieldLink RX6 7 "SchubertDeskModel" "one" "[I" ∈ wsX6_below := by decide +kernel
set_option maxRecDepth 20000 in
theorem mX6_below_1 : Cond.fieldLink RX6 13 "SchubertDeskModel" "other" "[I" ∈ wsX6_below := by decide +kernel
set_option maxRecDepth 20000 in
theorem nX6_below_X6 : ∀ w ∈ u_ws RX6 TX6 16, w ∈ wsX6_below := by decide +kernel
set_option maxHeartbeats 4000000 in
set_option maxRecDepth 100000 in
theorem wX6_below_36 {p : Program} {l : Launch} {e : Env} {s : State} {m : MethodId} {args : Array Value} {below : List Frame} {meth : Method} {c : Code} {G : GX} {A : Nat → Prop} (C : Cx p s m args meth c cX6_below 5 (some .int) wsX6_below RX6 G A) (q0 : Nat) (q0_one : Nat) (q0_other : Nat) (q0_third : Nat) (q0_waysTo : Nat) (q0_poly : Nat) (q0_then : Nat) (q0_steps : Nat) (q0_sheet : Nat) (q0_next : Nat) (q0_wide : Nat) (q0_partOf : Nat) (q0_partTimes : Nat) (q0_foundAt : Nat) (k0_isParted : Int32) (k0_parts : Int32) (k0_found : Int32) (p1 : Int32) (p2 : Int32) (res : Int32 × (Nat → Int32) × (Nat → Int32)) (rec27 : (Nat → Int32) → (Nat → Int32) → Int32 → Option (Int32 × (Nat → Int32) × (Nat → Int32))) (hr27 : ∀ (k0_one : Nat → Int32) (k0_other : Nat → Int32) (x3 : Int32) (H : Heap) (locs : List Loc) (ls : Array Slot), rec27 k0_one k0_other x3 = some res → va_P G.1 vwCl (wdX6_below G q0 q0_one q0_other q0_third q0_waysTo q0_poly q0_then q0_steps q0_sheet q0_next q0_wide q0_partOf q0_partTimes q0_foundAt k0_one k0_other k0_isParted k0_parts k0_found) H → va_D A (wdX6_below G q0 q0_one q0_other q0_third q0_waysTo q0_poly q0_then q0_steps q0_sheet q0_next q0_wide q0_partOf q0_partTimes q0_foundAt k0_one k0_other k0_isParted k0_parts k0_found) → va_S A s.heap H locs → lv_has ls 5 [(0, .ref q0), (3, .int x3)] → glX6_below p l e s m args below meth c G A q0 q0_one q0_other q0_third q0_waysTo q0_poly q0_then q0_steps q0_sheet q0_next q0_wide q0_partOf q0_partTimes q0_foundAt k0_isParted k0_parts k0_found res H locs 27 ls []) (n : Nat) : ∀ (k0_one : Nat → Int32) (k0_other : Nat → Int32) (x3 : Int32) (x4 : Int32) (H : Heap) (locs : List Loc) (ls : Array Slot), fX6_below_L36 p1 p2 rec27 n k0_one k0_other x3 x4 = some res → va_P G.1 vwCl (wdX6_below G q0 q0_one q0_other q0_third q0_waysTo q0_poly q0_then q0_steps q0_sheet q0_next q0_wide q0_partOf q0_partTimes q0_foundAt k0_one k0_other k0_isParted k0_parts k0_found) H → va_D A (wdX6_below G q0 q0_one q0_other q0_third q0_waysTo q0_poly q0_then q0_steps q0_sheet q0_next q0_wide q0_partOf q0_partTimes q0_foundAt k0_one k0_other k0_isParted k0_parts k0_found) → va_S A s.heap H locs → lv_has ls 5 [(0, .ref q0), (3, .int x3), (4, .int x4)] → glX6_below p l e s m args below meth c G A q0 q0_one q0_other q0_third q0_waysTo q0_poly q0_then q0_steps q0_sheet q0_next q0_wide q0_partOf q0_partTimes q0_foundAt k0_isParted k0_parts k0_found res H locs 36 ls [] := by
  obtain ⟨hx, hb, hml, hown, hts, hr, hlocks, hA, hG⟩ := id C
  induction n with
  | zero => intro k0_one k0_other x3 x4 H locs ls hf hP hD hS hl; cases hf
  | succ n ih =>
    intro k0_one k0_other x3 x4 H locs ls hf hP hD hS hl
    simp only [fX6_below_L36] at hf
    refine lv_iload hx hb dX6_below_36 (lv_at hl 2 rfl) ?_
    refine lv_bipush (v := (9 : Int32)) hx hb dX6_below_38 (by decide) ?_
    refine lv_icmp_gt (tgt := 74) hx hb dX6_below_40 (by decide) (fun hc => ?_) (fun hc => ?_)
    · have hf := if_t hc hf
      obtain ⟨y1, ey1⟩ : ∃ z : Int32, z = x3 + (1 : Int32) := ⟨_, rfl⟩
      have hf := nm_use ey1 hf
      refine lv_iinc (v := y1) (lv' := [(3, .int y1), (0, .ref q0), (4, .int x4)]) hx hb dX6_below_74 hl (k := 1) rfl (by rw [ey1]; rfl) (by decide) rfl (fun ls hl => ?_)
      refine lv_goto (tgt := 27) hx hb dX6_below_77 (by decide) ?_
      exact hr27 k0_one k0_other y1 _ _ ls hf hP hD hS (lv_sub hl [1, 0] rfl)
    · have hf := if_f hc hf
      refine lv_aload_n hx hb dX6_below_43 rfl (lv_at hl 0 rfl) ?_
      refine va_get (D := G.1) (ci := 6) (v := .ref q0_one) (C := RX6) (T := TX6) (N := 16) hx hb hts nX6_below_X6 hown hG.1 hP 0 rfl rfl 0 (by decide) (hts _ mX6_below_0) (fun _ h9 => h9) rfl dX6_below_44 ?_
      refine lv_iload_n hx hb dX6_below_47 rfl (lv_at hl 1 rfl) ?_
      refine lv_iload hx hb dX6_below_48 (lv_at hl 2 rfl) ?_
      obtain ⟨r2, hr2, hf⟩ := bd_use hf
      refine cl_S (wn := (wdX6_below G q0 q0_one q0_other q0_third q0_waysTo q0_poly q0_then q0_steps q0_sheet q0_next q0_wide q0_partOf q0_partTimes q0_foundAt k0_one k0_other k0_isParted k0_parts k0_found)) (st1 := [.int r2]) C hP hD hS (tX6_manyFrom l G q0_one k0_one x3 x4 r2 hr2) (va_cwS 3 hts gX6_below_X6_manyFrom rfl rfl rfl (by decide +kernel) ⟨Nat.le_of_ble_eq_true rfl, Nat.le_of_ble_eq_true rfl⟩) [1] [0, 2] [0, 2, 1] rfl rfl rfl rfl (by decide) rfl rfl rfl hl.1 rfl rfl (Nat.le_of_ble_eq_true rfl) dX6_below_50 (fun H locs hP hD hS => ?_)
      refine lv_aload_n hx hb dX6_below_53 rfl (lv_at hl 0 rfl) ?_
      refine va_get (D := G.1) (ci := 6) (v := .ref q0_other) (C := RX6) (T := TX6) (N := 16) hx hb hts nX6_below_X6 hown hG.1 hP 0 rfl rfl 1 (by decide) (hts _ mX6_below_1) (fun _ h9 => h9) rfl dX6_below_54 ?_
      refine lv_iload_n hx hb dX6_below_57 rfl (lv_at hl 1 rfl) ?_
      refine lv_iload hx hb dX6_below_58 (lv_at hl 2 rfl) ?_
      obtain ⟨r3, hr3, hf⟩ := bd_use hf
      refine cl_S (wn := (wdX6_below G q0 q0_one q0_other q0_third q0_waysTo q0_poly q0_then q0_steps q0_sheet q0_next q0_wide q0_partOf q0_partTimes q0_foundAt k0_one k0_other k0_isParted k0_parts k0_found)) (st1 := [.int r3, .int r2]) C hP hD hS (tX6_manyFrom l G q0_other k0_other x3 x4 r3 hr3) (va_cwS 3 hts gX6_below_X6_manyFrom rfl rfl rfl (by decide +kernel) ⟨Nat.le_of_ble_eq_true rfl, Nat.le_of_ble_eq_true rfl⟩) [2] [0, 1] [0, 1, 2] rfl rfl rfl rfl (by decide) rfl rfl rfl hl.1 rfl rfl (Nat.le_of_ble_eq_true rfl) dX6_below_60 (fun H locs hP hD hS => ?_)
      refine lv_icmp_le (tgt := 68) hx hb dX6_below_63 (by decide) (fun hc => ?_) (fun hc => ?_)
      · have hf := if_t hc hf
        obtain ⟨y4, ey4⟩ : ∃ z : Int32, z = x4 + (1 : Int32) := ⟨_, rfl⟩
        have hf := nm_use ey4 hf
        refine lv_iinc (v := y4) (lv' := [(4, .int y4), (0, .ref q0), (3, .int x3)]) hx hb dX6_below_68 hl (k := 2) rfl (by rw [ey4]; rfl) (by decide) rfl (fun ls hl => ?_)
        refine lv_goto (tgt := 36) hx hb dX6_below_71 (by decide) ?_
        exact ih k0_one k0_other x3 y4 _ _ ls hf hP hD hS (lv_sub hl [1, 2, 0] rfl)
      · have hf := if_f hc hf
        refine lv_iconst (v := (0 : Int32)) hx hb dX6_below_66 (by decide) ?_
        cases hf
        exact rt_i C hP hD hS dX6_below_67
set_option maxHeartbeats 4000000 in
set_option maxRecDepth 100000 in
theorem wX6_below_27 {p : Program} {l : Launch} {e : Env} {s : State} {m : MethodId} {args : Array Value} {below : List Frame} {meth : Method} {c : Code} {G : GX} {A : Nat → Prop} (C : Cx p s m args meth c cX6_below 5 (some .int) wsX6_below RX6 G A) (q0 : Nat) (q0_one : Nat) (q0_other : Nat) (q0_third : Nat) (q0_waysTo : Nat) (q0_poly : Nat) (q0_then : Nat) (q0_steps : Nat) (q0_sheet : Nat) (q0_next : Nat) (q0_wide : Nat) (q0_partOf : Nat) (q0_partTimes : Nat) (q0_foundAt : Nat) (k0_isParted : Int32) (k0_parts : Int32) (k0_found : Int32) (p1 : Int32) (p2 : Int32) (res : Int32 × (Nat → Int32) × (Nat → Int32)) (n : Nat) : ∀ (k0_one : Nat → Int32) (k0_other : Nat → Int32) (x3 : Int32) (H : Heap) (locs : List Loc) (ls : Array Slot), fX6_below_L27 p1 p2 n k0_one k0_other x3 = some res → va_P G.1 vwCl (wdX6_below G q0 q0_one q0_other q0_third q0_waysTo q0_poly q0_then q0_steps q0_sheet q0_next q0_wide q0_partOf q0_partTimes q0_foundAt k0_one k0_other k0_isParted k0_parts k0_found) H → va_D A (wdX6_below G q0 q0_one q0_other q0_third q0_waysTo q0_poly q0_then q0_steps q0_sheet q0_next q0_wide q0_partOf q0_partTimes q0_foundAt k0_one k0_other k0_isParted k0_parts k0_found) → va_S A s.heap H locs → lv_has ls 5 [(0, .ref q0), (3, .int x3)] → glX6_below p l e s m args below meth c G A q0 q0_one q0_other q0_third q0_waysTo q0_poly q0_then q0_steps q0_sheet q0_next q0_wide q0_partOf q0_partTimes q0_foundAt k0_isParted k0_parts k0_found res H locs 27 ls [] := by
  obtain ⟨hx, hb, hml, hown, hts, hr, hlocks, hA, hG⟩ := id C
  induction n with
  | zero => intro k0_one k0_other x3 H locs ls hf hP hD hS hl; cases hf
  | succ n ih =>
    intro k0_one k0_other x3 H locs ls hf hP hD hS hl
    simp only [fX6_below_L27] at hf
    refine lv_iload_n hx hb dX6_below_27 rfl (lv_at hl 1 rfl) ?_
    refine lv_bipush (v := (9 : Int32)) hx hb dX6_below_28 (by decide) ?_
    refine lv_icmp_gt (tgt := 80) hx hb dX6_below_30 (by decide) (fun hc => ?_) (fun hc => ?_)
    · have hf := if_t hc hf
      refine lv_iconst (v := (1 : Int32)) hx hb dX6_below_80 (by decide) ?_
      cases hf
      exact rt_i C hP hD hS dX6_below_81
    · have hf := if_f hc hf
      refine lv_iconst (v := (1 : Int32)) hx hb dX6_below_33 (by decide) ?_
      refine lv_istore (lv' := [(4, .int (1 : Int32)), (0, .ref q0), (3, .int x3)]) hx hb dX6_below_34 hl (by decide) rfl (fun ls hl => ?_)
      exact wX6_below_36 C q0 q0_one q0_other q0_third q0_waysTo q0_poly q0_then q0_steps q0_sheet q0_next q0_wide q0_partOf q0_partTimes q0_foundAt k0_isParted k0_parts k0_found p1 p2 res (fX6_below_L27 p1 p2 n) ih fu k0_one k0_other x3 (1 : Int32) _ _ ls hf hP hD hS (lv_sub hl [1, 2, 0] rfl)
set_option maxHeartbeats 4000000 in
set_option maxRecDepth 100000 in
theorem tX6_below (l : Launch) (G : GX) (q0 : Nat) (q0_one : Nat) (q0_other : Nat) (q0_third : Nat) (q0_waysTo : Nat) (q0_poly : Nat) (q0_then : Nat) (q0_steps : Nat) (q0_sheet : Nat) (q0_next : Nat) (q0_wide : Nat) (q0_partOf : Nat) (q0_partTimes : Nat) (q0_foundAt : Nat) (k0_one : Nat → Int32) (k0_other : Nat → Int32) (k0_isParted : Int32) (k0_parts : Int32) (k0_found : Int32) (p1 : Int32) (p2 : Int32) (res : Int32 × (Nat → Int32) × (Nat → Int32)) (hf : fX6_below k0_one k0_other p1 p2 = some res) : Ct l yX6_below wsX6_below rmX6_below G [.ref q0, .int p1, .int p2] (wdX6_below G q0 q0_one q0_other q0_third q0_waysTo q0_poly q0_then q0_steps q0_sheet q0_next q0_wide q0_partOf q0_partTimes q0_foundAt k0_one k0_other k0_isParted k0_parts k0_found) (wdX6_below G q0 q0_one q0_other q0_third q0_waysTo q0_poly q0_then q0_steps q0_sheet q0_next q0_wide q0_partOf q0_partTimes q0_foundAt res.2.1 res.2.2 k0_isParted k0_parts k0_found) (some (.int res.1)) := by
  refine Ct.of (cc := cX6_below) (nL := 5) (ret := (some .int)) (by decide) rfl (Nat.le_of_ble_eq_true rfl) rfl ?_
  intro p e s m below meth c A ls C hP hD hl
  obtain ⟨hx, hb, hml, hown, hts, hr, hlocks, hA, hG⟩ := id C
  have hS : va_S A s.heap s.heap [] := va_S.rf
  unfold fX6_below at hf
  refine lv_iload_n hx hb dX6_below_0 rfl (lv_at hl 1 rfl) ?_
  refine lv_aload_n hx hb dX6_below_1 rfl (lv_at hl 0 rfl) ?_
  refine va_get (D := G.1) (ci := 6) (v := .ref q0_one) (C := RX6) (T := TX6) (N := 16) hx hb hts nX6_below_X6 hown hG.1 hP 0 rfl rfl 0 (by decide) (hts _ mX6_below_0) (fun _ h9 => h9) rfl dX6_below_2 ?_
  obtain ⟨r5, hr5, hf⟩ := bd_use hf
  refine cl_S (wn := (wdX6_below G q0 q0_one q0_other q0_third q0_waysTo q0_poly q0_then q0_steps q0_sheet q0_next q0_wide q0_partOf q0_partTimes q0_foundAt r5.2 k0_other k0_isParted k0_parts k0_found)) (st1 := [.int r5.1]) C hP hD hS (tX6_lays l G q0_one k0_one p1 r5 hr5) (va_cwS 2 hts gX6_below_X6_lays rfl rfl rfl (by decide +kernel) ⟨Nat.le_of_ble_eq_true rfl, Nat.le_of_ble_eq_true rfl⟩) [1] [0, 2] [0, 2, 1] rfl rfl rfl rfl (by decide) rfl rfl rfl hl.1 rfl rfl (Nat.le_of_ble_eq_true rfl) dX6_below_5 (fun H locs hP hD hS => ?_)
  refine lv_if_eq (tgt := 22) hx hb dX6_below_8 (by decide) (fun hc => ?_) (fun hc => ?_)
  · have hf := if_t hc hf
    refine lv_bipush (v := (-2 : Int32)) hx hb dX6_below_22 (by decide) ?_
    cases hf
    exact rt_i C hP hD hS dX6_below_24
  · have hf := if_f hc hf
    refine lv_iload_n hx hb dX6_below_11 rfl (lv_at hl 2 rfl) ?_
    refine lv_aload_n hx hb dX6_below_12 rfl (lv_at hl 0 rfl) ?_
    refine va_get (D := G.1) (ci := 6) (v := .ref q0_other) (C := RX6) (T := TX6) (N := 16) hx hb hts nX6_below_X6 hown hG.1 hP 0 rfl rfl 1 (by decide) (hts _ mX6_below_1) (fun _ h9 => h9) rfl dX6_below_13 ?_
    obtain ⟨r6, hr6, hf⟩ := bd_use hf
    refine cl_S (wn := (wdX6_below G q0 q0_one q0_other q0_third q0_waysTo q0_poly q0_then q0_steps q0_sheet q0_next q0_wide q0_partOf q0_partTimes q0_foundAt r5.2 r6.2 k0_isParted k0_parts k0_found)) (st1 := [.int r6.1]) C hP hD hS (tX6_lays l G q0_other k0_other p2 r6 hr6) (va_cwS 2 hts gX6_below_X6_lays rfl rfl rfl (by decide +kernel) ⟨Nat.le_of_ble_eq_true rfl, Nat.le_of_ble_eq_true rfl⟩) [2] [0, 1] [0, 1, 2] rfl rfl rfl rfl (by decide) rfl rfl rfl hl.1 rfl rfl (Nat.le_of_ble_eq_true rfl) dX6_below_16 (fun H locs hP hD hS => ?_)
    refine lv_if_ne (tgt := 25) hx hb dX6_below_19 (by decide) (fun hc => ?_) (fun hc => ?_)
    · have hf := if_f hc hf
      refine lv_iconst (v := (1 : Int32)) hx hb dX6_below_25 (by decide) ?_
      refine lv_istore_n (lv' := [(3, .int (1 : Int32)), (0, .ref q0), (1, .int p1), (2, .int p2)]) hx hb dX6_below_26 rfl hl (by decide) rfl (fun ls hl => ?_)
      exact wX6_below_27 C q0 q0_one q0_other q0_third q0_waysTo q0_poly q0_then q0_steps q0_sheet q0_next q0_wide q0_partOf q0_partTimes q0_foundAt k0_isParted k0_parts k0_found p1 p2 res fu r5.2 r6.2 (1 : Int32) _ _ ls hf hP hD hS (lv_sub hl [1, 0] rfl)
    · have hf := if_t hc hf
      refine lv_bipush (v := (-2 : Int32)) hx hb dX6_below_22 (by decide) ?_
      cases hf
      exact rt_i C hP hD hS dX6_below_24
abbrev wdX6_laysSmall (G : GX) (q0 : Nat) (q0_one : Nat) (q0_other : Nat) (q0_third : Nat) (q0_waysTo : Nat) (q0_poly : Nat) (q0_then : Nat) (q0_steps : Nat) (q0_sheet : Nat) (q0_next : Nat) (q0_wide : Nat) (q0_partOf : Nat) (q0_partTimes : Nat) (q0_foundAt : Nat) (k0_other : Nat → Int32) (k0_isParted : Int32) (k0_parts : Int32) (k0_found : Int32) : va_W := [(q0, .inr (6, [.ref q0_one, .ref q0_other, .ref q0_third, .ref q0_waysTo, .ref q0_poly, .ref q0_then, .ref q0_steps, .ref q0_sheet, .ref q0_next, .int k0_isParted, .ref q0_wide, .int k0_parts, .ref q0_partOf, .ref q0_partTimes, .int k0_found, .ref q0_foundAt])), (q0_other, .inl (G.2.1, 10, .inl k0_other))]
abbrev rmX6_laysSmall : Room := { frames := 1, cells := 0, slots := 0, locals := 29 }
abbrev glX6_laysSmall (p : Program) (l : Launch) (e : Env) (s : State) (m : MethodId) (args : Array Value) (below : List Frame) (meth : Method) (c : Code) (G : GX) (A : Nat → Prop) (q0 : Nat) (q0_one : Nat) (q0_other : Nat) (q0_third : Nat) (q0_waysTo : Nat) (q0_poly : Nat) (q0_then : Nat) (q0_steps : Nat) (q0_sheet : Nat) (q0_next : Nat) (q0_wide : Nat) (q0_partOf : Nat) (q0_partTimes : Nat) (q0_foundAt : Nat) (k0_isParted : Int32) (k0_parts : Int32) (k0_found : Int32) (res : (Nat → Int32)) (H : Heap) (locs : List Loc) (pc : Nat) (ls : Array Slot) (st : List Value) : Prop := W p l e rmX6_laysSmall s m args below meth c H locs 0 0 (MQ below (ctQ G A (wdX6_laysSmall G q0 q0_one q0_other q0_third q0_waysTo q0_poly q0_then q0_steps q0_sheet q0_next q0_wide q0_partOf q0_partTimes q0_foundAt res k0_isParted k0_parts k0_found) none) args s 0 0 A) (F0 m pc ls st)
set_option maxRecDepth 20000 in
theorem mX6_laysSmall_0 : Cond.fieldLink RX6 13 "SchubertDeskModel" "other" "[I" ∈ wsX6_laysSmall := by decide +kernel
set_option maxRecDepth 20000 in
theorem nX6_laysSmall_X6 : ∀ w ∈ u_ws RX6 TX6 16, w ∈ wsX6_laysSmall := by decide +kernel
set_option maxHeartbeats 4000000 in
set_option maxRecDepth 100000 in
theorem tX6_laysSmall (l : Launch) (G : GX) (q0 : Nat) (q0_one : Nat) (q0_other : Nat) (q0_third : Nat) (q0_waysTo : Nat) (q0_poly : Nat) (q0_then : Nat) (q0_steps : Nat) (q0_sheet : Nat) (q0_next : Nat) (q0_wide : Nat) (q0_partOf : Nat) (q0_partTimes : Nat) (q0_foundAt : Nat) (k0_other : Nat → Int32) (k0_isParted : Int32) (k0_parts : Int32) (k0_found : Int32) (p1 : Int32) (res : (Nat → Int32)) (hf : fX6_laysSmall k0_other p1 = some res) : Ct l yX6_laysSmall wsX6_laysSmall rmX6_laysSmall G [.ref q0, .int p1] (wdX6_laysSmall G q0 q0_one q0_other q0_third q0_waysTo q0_poly q0_then q0_steps q0_sheet q0_next q0_wide q0_partOf q0_partTimes q0_foundAt k0_other k0_isParted k0_parts k0_found) (wdX6_laysSmall G q0 q0_one q0_other q0_third q0_waysTo q0_poly q0_then q0_steps q0_sheet q0_next q0_wide q0_partOf q0_partTimes q0_foundAt res k0_isParted k0_parts k0_found) none := by
  refine Ct.of (cc := cX6_laysSmall) (nL := 2) (ret := none) (by decide) rfl (Nat.le_of_ble_eq_true rfl) rfl ?_
  intro p e s m below meth c A ls C hP hD hl
  obtain ⟨hx, hb, hml, hown, hts, hr, hlocks, hA, hG⟩ := id C
  have hS : va_S A s.heap s.heap [] := va_S.rf
  unfold fX6_laysSmall at hf
  refine lv_aload_n hx hb dX6_laysSmall_0 rfl (lv_at hl 0 rfl) ?_
  refine lv_iload_n hx hb dX6_laysSmall_1 rfl (lv_at hl 1 rfl) ?_
  refine lv_bipush (v := (24 : Int32)) hx hb dX6_laysSmall_2 (by decide) ?_
  refine lv_idiv hx hb dX6_laysSmall_4 (by decide) ?_
  refine lv_iload_n hx hb dX6_laysSmall_5 rfl (lv_at hl 1 rfl) ?_
  refine lv_bipush (v := (6 : Int32)) hx hb dX6_laysSmall_6 (by decide) ?_
  refine lv_idiv hx hb dX6_laysSmall_8 (by decide) ?_
  refine lv_iconst (v := (4 : Int32)) hx hb dX6_laysSmall_9 (by decide) ?_
  refine lv_irem hx hb dX6_laysSmall_10 (by decide) ?_
  refine lv_iload_n hx hb dX6_laysSmall_11 rfl (lv_at hl 1 rfl) ?_
  refine lv_iconst (v := (2 : Int32)) hx hb dX6_laysSmall_12 (by decide) ?_
  refine lv_idiv hx hb dX6_laysSmall_13 (by decide) ?_
  refine lv_iconst (v := (3 : Int32)) hx hb dX6_laysSmall_14 (by decide) ?_
  refine lv_irem hx hb dX6_laysSmall_15 (by decide) ?_
  refine lv_iload_n hx hb dX6_laysSmall_16 rfl (lv_at hl 1 rfl) ?_
  refine lv_iconst (v := (2 : Int32)) hx hb dX6_laysSmall_17 (by decide) ?_
  refine lv_irem hx hb dX6_laysSmall_18 (by decide) ?_
  refine lv_aload_n hx hb dX6_laysSmall_19 rfl (lv_at hl 0 rfl) ?_
  refine va_get (D := G.1) (ci := 6) (v := .ref q0_other) (C := RX6) (T := TX6) (N := 16) hx hb hts nX6_laysSmall_X6 hown hG.1 hP 0 rfl rfl 1 (by decide) (hts _ mX6_laysSmall_0) (fun _ h9 => h9) rfl dX6_laysSmall_20 ?_
  obtain ⟨r1, hr1, hf⟩ := bd_use hf
  refine cl_V (wn := (wdX6_laysSmall G q0 q0_one q0_other q0_third q0_waysTo q0_poly q0_then q0_steps q0_sheet q0_next q0_wide q0_partOf q0_partTimes q0_foundAt r1 k0_isParted k0_parts k0_found)) (st1 := []) C hP hD hS (tX6_laysCode l G q0 q0_other k0_other (p1 / (24 : Int32)) ((p1 / (6 : Int32)) - (p1 / (6 : Int32)) / (4 : Int32) * (4 : Int32)) ((p1 / (2 : Int32)) - (p1 / (2 : Int32)) / (3 : Int32) * (3 : Int32)) (p1 - p1 / (2 : Int32) * (2 : Int32)) r1 hr1) (cwV 5 hts gX6_laysSmall_X6_laysCode rfl rfl rfl (by decide +kernel) ⟨Nat.le_of_ble_eq_true rfl, Nat.le_of_ble_eq_true rfl⟩) [1] [0] [0, 1] rfl rfl rfl rfl (by decide) rfl rfl (ci := 6) (q0 := 0) rfl rfl rfl rfl hl.1 rfl rfl (Nat.le_of_ble_eq_true rfl) dX6_laysSmall_23 (fun H locs hP hD hS => ?_)
  cases hf
  exact rt_v C hP hD hS dX6_laysSmall_26
abbrev wdX6_smallOf (G : GX) (q0 : Nat) (k0 : Nat → Int32) : va_W := [(q0, .inl (G.2.1, 10, .inl k0))]
abbrev rmX6_smallOf : Room := { frames := 1, cells := 0, slots := 0, locals := 23 }
abbrev glX6_smallOf (p : Program) (l : Launch) (e : Env) (s : State) (m : MethodId) (args : Array Value) (below : List Frame) (meth : Method) (c : Code) (G : GX) (A : Nat → Prop) (q0 : Nat) (k0 : Nat → Int32) (res : Int32) (H : Heap) (locs : List Loc) (pc : Nat) (ls : Array Slot) (st : List Value) : Prop := W p l e rmX6_smallOf s m args below meth c H locs 0 0 (MQ below (ctQ G A (wdX6_smallOf G q0 k0) (some (.int res))) args s 0 0 A) (F0 m pc ls st)
set_option maxHeartbeats 4000000 in
set_option maxRecDepth 100000 in
theorem tX6_smallOf (l : Launch) (G : GX) (q0 : Nat) (k0 : Nat → Int32) (res : Int32) (hf : fX6_smallOf k0 = some res) : Ct l yX6_smallOf wsX6_smallOf rmX6_smallOf G [.ref q0] (wdX6_smallOf G q0 k0) (wdX6_smallOf G q0 k0) (some (.int res)) := by
  refine Ct.of (cc := cX6_smallOf) (nL := 1) (ret := (some .int)) (by decide) rfl (Nat.le_of_ble_eq_true rfl) rfl ?_
  intro p e s m below meth c A ls C hP hD hl
  obtain ⟨hx, hb, hml, hown, hts, hr, hlocks, hA, hG⟩ := id C
  have hS : va_S A s.heap s.heap [] := va_S.rf
  unfold fX6_smallOf at hf
  refine lv_bipush (v := (24 : Int32)) hx hb dX6_smallOf_0 (by decide) ?_
  refine lv_aload_n hx hb dX6_smallOf_2 rfl (lv_at hl 0 rfl) ?_
  refine lv_iconst (v := (1 : Int32)) hx hb dX6_smallOf_3 (by decide) ?_
  obtain ⟨r1, hr1, hf⟩ := bd_use hf
  refine cl_S (wn := (wdX6_smallOf G q0 k0)) (st1 := [.int r1, .int (24 : Int32)]) C hP hD hS (tX6_codeAt l G q0 k0 (1 : Int32) r1 hr1) (va_cwS 2 hts gX6_smallOf_X6_codeAt rfl rfl rfl (by decide +kernel) ⟨Nat.le_of_ble_eq_true rfl, Nat.le_of_ble_eq_true rfl⟩) [0] [] [0] rfl rfl rfl rfl (by decide) rfl rfl rfl hl.1 rfl rfl (Nat.le_of_ble_eq_true rfl) dX6_smallOf_4 (fun H locs hP hD hS => ?_)
  refine lv_imul hx hb dX6_smallOf_7 ?_
  refine lv_bipush (v := (6 : Int32)) hx hb dX6_smallOf_8 (by decide) ?_
  refine lv_aload_n hx hb dX6_smallOf_10 rfl (lv_at hl 0 rfl) ?_
  refine lv_iconst (v := (2 : Int32)) hx hb dX6_smallOf_11 (by decide) ?_
  obtain ⟨r2, hr2, hf⟩ := bd_use hf
  refine cl_S (wn := (wdX6_smallOf G q0 k0)) (st1 := [.int r2, .int (6 : Int32), .int ((24 : Int32) * r1)]) C hP hD hS (tX6_codeAt l G q0 k0 (2 : Int32) r2 hr2) (va_cwS 2 hts gX6_smallOf_X6_codeAt rfl rfl rfl (by decide +kernel) ⟨Nat.le_of_ble_eq_true rfl, Nat.le_of_ble_eq_true rfl⟩) [0] [] [0] rfl rfl rfl rfl (by decide) rfl rfl rfl hl.1 rfl rfl (Nat.le_of_ble_eq_true rfl) dX6_smallOf_12 (fun H locs hP hD hS => ?_)
  refine lv_imul hx hb dX6_smallOf_15 ?_
  refine lv_iadd hx hb dX6_smallOf_16 ?_
  refine lv_iconst (v := (2 : Int32)) hx hb dX6_smallOf_17 (by decide) ?_
  refine lv_aload_n hx hb dX6_smallOf_18 rfl (lv_at hl 0 rfl) ?_
  refine lv_iconst (v := (3 : Int32)) hx hb dX6_smallOf_19 (by decide) ?_
  obtain ⟨r3, hr3, hf⟩ := bd_use hf
  refine cl_S (wn := (wdX6_smallOf G q0 k0)) (st1 := [.int r3, .int (2 : Int32), .int (((24 : Int32) * r1) + ((6 : Int32) * r2))]) C hP hD hS (tX6_codeAt l G q0 k0 (3 : Int32) r3 hr3) (va_cwS 2 hts gX6_smallOf_X6_codeAt rfl rfl rfl (by decide +kernel) ⟨Nat.le_of_ble_eq_true rfl, Nat.le_of_ble_eq_true rfl⟩) [0] [] [0] rfl rfl rfl rfl (by decide) rfl rfl rfl hl.1 rfl rfl (Nat.le_of_ble_eq_true rfl) dX6_smallOf_20 (fun H locs hP hD hS => ?_)
  refine lv_imul hx hb dX6_smallOf_23 ?_
  refine lv_iadd hx hb dX6_smallOf_24 ?_
  refine lv_aload_n hx hb dX6_smallOf_25 rfl (lv_at hl 0 rfl) ?_
  refine lv_iconst (v := (4 : Int32)) hx hb dX6_smallOf_26 (by decide) ?_
  obtain ⟨r4, hr4, hf⟩ := bd_use hf
  refine cl_S (wn := (wdX6_smallOf G q0 k0)) (st1 := [.int r4, .int ((((24 : Int32) * r1) + ((6 : Int32) * r2)) + ((2 : Int32) * r3))]) C hP hD hS (tX6_codeAt l G q0 k0 (4 : Int32) r4 hr4) (va_cwS 2 hts gX6_smallOf_X6_codeAt rfl rfl rfl (by decide +kernel) ⟨Nat.le_of_ble_eq_true rfl, Nat.le_of_ble_eq_true rfl⟩) [0] [] [0] rfl rfl rfl rfl (by decide) rfl rfl rfl hl.1 rfl rfl (Nat.le_of_ble_eq_true rfl) dX6_smallOf_27 (fun H locs hP hD hS => ?_)
  refine lv_iadd hx hb dX6_smallOf_30 ?_
  cases hf
  exact rt_i C hP hD hS dX6_smallOf_31
abbrev wdX6_findWays (G : GX) (q0 : Nat) (q0_one : Nat) (q0_other : Nat) (q0_third : Nat) (q0_waysTo : Nat) (q0_poly : Nat) (q0_then : Nat) (q0_steps : Nat) (q0_sheet : Nat) (q0_next : Nat) (q0_wide : Nat) (q0_partOf : Nat) (q0_partTimes : Nat) (q0_foundAt : Nat) (k0_other : Nat → Int32) (k0_waysTo : Nat → Int32) (k0_isParted : Int32) (k0_parts : Int32) (k0_found : Int32) : va_W := [(q0, .inr (6, [.ref q0_one, .ref q0_other, .ref q0_third, .ref q0_waysTo, .ref q0_poly, .ref q0_then, .ref q0_steps, .ref q0_sheet, .ref q0_next, .int k0_isParted, .ref q0_wide, .int k0_parts, .ref q0_partOf, .ref q0_partTimes, .int k0_found, .ref q0_foundAt])), (q0_other, .inl (G.2.1, 10, .inl k0_other)), (q0_waysTo, .inl (G.2.1, 120, .inl k0_waysTo))]
abbrev rmX6_findWays : Room := { frames := 2, cells := 0, slots := 0, locals := 50 }
abbrev glX6_findWays (p : Program) (l : Launch) (e : Env) (s : State) (m : MethodId) (args : Array Value) (below : List Frame) (meth : Method) (c : Code) (G : GX) (A : Nat → Prop) (q0 : Nat) (q0_one : Nat) (q0_other : Nat) (q0_third : Nat) (q0_waysTo : Nat) (q0_poly : Nat) (q0_then : Nat) (q0_steps : Nat) (q0_sheet : Nat) (q0_next : Nat) (q0_wide : Nat) (q0_partOf : Nat) (q0_partTimes : Nat) (q0_foundAt : Nat) (k0_isParted : Int32) (k0_parts : Int32) (k0_found : Int32) (res : (Nat → Int32) × (Nat → Int32)) (H : Heap) (locs : List Loc) (pc : Nat) (ls : Array Slot) (st : List Value) : Prop := W p l e rmX6_findWays s m args below meth c H locs 0 0 (MQ below (ctQ G A (wdX6_findWays G q0 q0_one q0_other q0_third q0_waysTo q0_poly q0_then q0_steps q0_sheet q0_next q0_wide q0_partOf q0_partTimes q0_foundAt res.1 res.2 k0_isParted k0_parts k0_found) none) args s 0 0 A) (F0 m pc ls st)
set_option maxRecDepth 20000 in
theorem mX6_findWays_0 : Cond.fieldLink RX6 19 "SchubertDeskModel" "waysTo" "[I" ∈ wsX6_findWays := by decide +kernel
set_option maxRecDepth 20000 in
theorem mX6_findWays_1 : Cond.fieldLink RX6 13 "SchubertDeskModel" "other" "[I" ∈ wsX6_findWays := by decide +kernel
set_option maxRecDepth 20000 in
theorem nX6_findWays_X6 : ∀ w ∈ u_ws RX6 TX6 16, w ∈ wsX6_findWays := by decide +kernel
set_option maxHeartbeats 4000000 in
set_option maxRecDepth 100000 in
theorem wX6_findWays_77 {p : Program} {l : Launch} {e : Env} {s : State} {m : MethodId} {args : Array Value} {below : List Frame} {meth : Method} {c : Code} {G : GX} {A : Nat → Prop} (C : Cx p s m args meth c cX6_findWays 4 none wsX6_findWays RX6 G A) (q0 : Nat) (q0_one : Nat) (q0_other : Nat) (q0_third : Nat) (q0_waysTo : Nat) (q0_poly : Nat) (q0_then : Nat) (q0_steps : Nat) (q0_sheet : Nat) (q0_next : Nat) (q0_wide : Nat) (q0_partOf : Nat) (q0_partTimes : Nat) (q0_foundAt : Nat) (k0_isParted : Int32) (k0_parts : Int32) (k0_found : Int32) (p1 : Int32) (res : (Nat → Int32) × (Nat → Int32)) : ∀ (k0_other : Nat → Int32) (k0_waysTo : Nat → Int32) (s1 : Int32) (s2 : Int32) (H : Heap) (locs : List Loc) (ls : Array Slot), fX6_findWays_b77 p1 k0_other k0_waysTo s1 s2 = some res → va_P G.1 vwCl (wdX6_findWays G q0 q0_one q0_other q0_third q0_waysTo q0_poly q0_then q0_steps q0_sheet q0_next q0_wide q0_partOf q0_partTimes q0_foundAt k0_other k0_waysTo k0_isParted k0_parts k0_found) H → va_D A (wdX6_findWays G q0 q0_one q0_other q0_third q0_waysTo q0_poly q0_then q0_steps q0_sheet q0_next q0_wide q0_partOf q0_partTimes q0_foundAt k0_other k0_waysTo k0_isParted k0_parts k0_found) → va_S A s.heap H locs → lv_has ls 4 [] → glX6_findWays p l e s m args below meth c G A q0 q0_one q0_other q0_third q0_waysTo q0_poly q0_then q0_steps q0_sheet q0_next q0_wide q0_partOf q0_partTimes q0_foundAt k0_isParted k0_parts k0_found res H locs 77 ls [.int s2, .int s1, .ref q0_waysTo] := by
  obtain ⟨hx, hb, hml, hown, hts, hr, hlocks, hA, hG⟩ := id C
  intro k0_other k0_waysTo s1 s2 H locs ls hf hP hD hS hl
  unfold fX6_findWays_b77 at hf
  obtain ⟨hin, hf⟩ := pI_use hf
  refine va_iast hx hb hG.1 hP hD hS 2 0 rfl rfl hin dX6_findWays_77 (fun H locs hP hD hS => ?_)
  have hP : va_P G.1 vwCl (wdX6_findWays G q0 q0_one q0_other q0_third q0_waysTo q0_poly q0_then q0_steps q0_sheet q0_next q0_wide q0_partOf q0_partTimes q0_foundAt k0_other (upd k0_waysTo (s1).toNatClampNeg s2) k0_isParted k0_parts k0_found) H := hP
  have hD : va_D A (wdX6_findWays G q0 q0_one q0_other q0_third q0_waysTo q0_poly q0_then q0_steps q0_sheet q0_next q0_wide q0_partOf q0_partTimes q0_foundAt k0_other (upd k0_waysTo (s1).toNatClampNeg s2) k0_isParted k0_parts k0_found) := hD
  cases hf
  exact rt_v C hP hD hS dX6_findWays_78
set_option maxHeartbeats 4000000 in
set_option maxRecDepth 100000 in
theorem wX6_findWays_4 {p : Program} {l : Launch} {e : Env} {s : State} {m : MethodId} {args : Array Value} {below : List Frame} {meth : Method} {c : Code} {G : GX} {A : Nat → Prop} (C : Cx p s m args meth c cX6_findWays 4 none wsX6_findWays RX6 G A) (q0 : Nat) (q0_one : Nat) (q0_other : Nat) (q0_third : Nat) (q0_waysTo : Nat) (q0_poly : Nat) (q0_then : Nat) (q0_steps : Nat) (q0_sheet : Nat) (q0_next : Nat) (q0_wide : Nat) (q0_partOf : Nat) (q0_partTimes : Nat) (q0_foundAt : Nat) (k0_isParted : Int32) (k0_parts : Int32) (k0_found : Int32) (p1 : Int32) (res : (Nat → Int32) × (Nat → Int32)) (n : Nat) : ∀ (k0_other : Nat → Int32) (k0_waysTo : Nat → Int32) (x2 : Int32) (x3 : Int32) (H : Heap) (locs : List Loc) (ls : Array Slot), fX6_findWays_L4 p1 n k0_other k0_waysTo x2 x3 = some res → va_P G.1 vwCl (wdX6_findWays G q0 q0_one q0_other q0_third q0_waysTo q0_poly q0_then q0_steps q0_sheet q0_next q0_wide q0_partOf q0_partTimes q0_foundAt k0_other k0_waysTo k0_isParted k0_parts k0_found) H → va_D A (wdX6_findWays G q0 q0_one q0_other q0_third q0_waysTo q0_poly q0_then q0_steps q0_sheet q0_next q0_wide q0_partOf q0_partTimes q0_foundAt k0_other k0_waysTo k0_isParted k0_parts k0_found) → va_S A s.heap H locs → lv_has ls 4 [(0, .ref q0), (1, .int p1), (2, .int x2), (3, .int x3)] → glX6_findWays p l e s m args below meth c G A q0 q0_one q0_other q0_third q0_waysTo q0_poly q0_then q0_steps q0_sheet q0_next q0_wide q0_partOf q0_partTimes q0_foundAt k0_isParted k0_parts k0_found res H locs 4 ls [] := by
  obtain ⟨hx, hb, hml, hown, hts, hr, hlocks, hA, hG⟩ := id C
  induction n with
  | zero => intro k0_other k0_waysTo x2 x3 H locs ls hf hP hD hS hl; cases hf
  | succ n ih =>
    intro k0_other k0_waysTo x2 x3 H locs ls hf hP hD hS hl
    simp only [fX6_findWays_L4] at hf
    refine lv_iload_n hx hb dX6_findWays_4 rfl (lv_at hl 3 rfl) ?_
    refine lv_iconst (v := (5 : Int32)) hx hb dX6_findWays_5 (by decide) ?_
    refine lv_icmp_ge (tgt := 63) hx hb dX6_findWays_6 (by decide) (fun hc => ?_) (fun hc => ?_)
    · have hf := if_t hc hf
      refine lv_aload_n hx hb dX6_findWays_63 rfl (lv_at hl 0 rfl) ?_
      refine va_get (D := G.1) (ci := 6) (v := .ref q0_waysTo) (C := RX6) (T := TX6) (N := 16) hx hb hts nX6_findWays_X6 hown hG.1 hP 0 rfl rfl 3 (by decide) (hts _ mX6_findWays_0) (fun _ h9 => h9) rfl dX6_findWays_64 ?_
      refine lv_iload_n hx hb dX6_findWays_67 rfl (lv_at hl 1 rfl) ?_
      refine lv_iload_n hx hb dX6_findWays_68 rfl (lv_at hl 1 rfl) ?_
      refine lv_if_ne (tgt := 76) hx hb dX6_findWays_69 (by decide) (fun hc => ?_) (fun hc => ?_)
      · have hf := if_f hc hf
        refine lv_iload_n hx hb dX6_findWays_76 rfl (lv_at hl 2 rfl) ?_
        exact wX6_findWays_77 C q0 q0_one q0_other q0_third q0_waysTo q0_poly q0_then q0_steps q0_sheet q0_next q0_wide q0_partOf q0_partTimes q0_foundAt k0_isParted k0_parts k0_found p1 res k0_other k0_waysTo p1 x2 _ _ ls hf hP hD hS (lv_sub hl [] rfl)
      · have hf := if_t hc hf
        refine lv_iconst (v := (1 : Int32)) hx hb dX6_findWays_72 (by decide) ?_
        refine lv_goto (tgt := 77) hx hb dX6_findWays_73 (by decide) ?_
        exact wX6_findWays_77 C q0 q0_one q0_other q0_third q0_waysTo q0_poly q0_then q0_steps q0_sheet q0_next q0_wide q0_partOf q0_partTimes q0_foundAt k0_isParted k0_parts k0_found p1 res k0_other k0_waysTo p1 (1 : Int32) _ _ ls hf hP hD hS (lv_sub hl [] rfl)
    · have hf := if_f hc hf
      refine lv_aload_n hx hb dX6_findWays_9 rfl (lv_at hl 0 rfl) ?_
      refine lv_iload_n hx hb dX6_findWays_10 rfl (lv_at hl 1 rfl) ?_
      obtain ⟨r2, hr2, hf⟩ := bd_use hf
      refine cl_V (wn := (wdX6_findWays G q0 q0_one q0_other q0_third q0_waysTo q0_poly q0_then q0_steps q0_sheet q0_next q0_wide q0_partOf q0_partTimes q0_foundAt r2 k0_waysTo k0_isParted k0_parts k0_found)) (st1 := []) C hP hD hS (tX6_laysSmall l G q0 q0_one q0_other q0_third q0_waysTo q0_poly q0_then q0_steps q0_sheet q0_next q0_wide q0_partOf q0_partTimes q0_foundAt k0_other k0_isParted k0_parts k0_found p1 r2 hr2) (cwV 1 hts gX6_findWays_X6_laysSmall rfl rfl rfl (by decide +kernel) ⟨Nat.le_of_ble_eq_true rfl, Nat.le_of_ble_eq_true rfl⟩) [0, 1] [2] [1, 2, 0] rfl rfl rfl rfl (by decide) rfl rfl (ci := 6) (q0 := 0) rfl rfl rfl rfl hl.1 rfl rfl (Nat.le_of_ble_eq_true rfl) dX6_findWays_11 (fun H locs hP hD hS => ?_)
      refine lv_aload_n hx hb dX6_findWays_14 rfl (lv_at hl 0 rfl) ?_
      refine va_get (D := G.1) (ci := 6) (v := .ref q0_other) (C := RX6) (T := TX6) (N := 16) hx hb hts nX6_findWays_X6 hown hG.1 hP 0 rfl rfl 1 (by decide) (hts _ mX6_findWays_1) (fun _ h9 => h9) rfl dX6_findWays_15 ?_
      refine lv_iload_n hx hb dX6_findWays_18 rfl (lv_at hl 3 rfl) ?_
      obtain ⟨hin, hf⟩ := gI_use hf
      refine va_iald hx hb hG.1 hP 1 0 rfl rfl hin dX6_findWays_19 ?_
      refine lv_aload_n hx hb dX6_findWays_20 rfl (lv_at hl 0 rfl) ?_
      refine va_get (D := G.1) (ci := 6) (v := .ref q0_other) (C := RX6) (T := TX6) (N := 16) hx hb hts nX6_findWays_X6 hown hG.1 hP 0 rfl rfl 1 (by decide) (hts _ mX6_findWays_1) (fun _ h9 => h9) rfl dX6_findWays_21 ?_
      refine lv_iload_n hx hb dX6_findWays_24 rfl (lv_at hl 3 rfl) ?_
      refine lv_iconst (v := (1 : Int32)) hx hb dX6_findWays_25 (by decide) ?_
      refine lv_iadd hx hb dX6_findWays_26 ?_
      obtain ⟨hin, hf⟩ := gI_use hf
      refine va_iald hx hb hG.1 hP 1 0 rfl rfl hin dX6_findWays_27 ?_
      refine lv_icmp_le (tgt := 57) hx hb dX6_findWays_28 (by decide) (fun hc => ?_) (fun hc => ?_)
      · have hf := if_t hc hf
        obtain ⟨y5, ey5⟩ : ∃ z : Int32, z = x3 + (1 : Int32) := ⟨_, rfl⟩
        have hf := nm_use ey5 hf
        refine lv_iinc (v := y5) (lv' := [(3, .int y5), (0, .ref q0), (1, .int p1), (2, .int x2)]) hx hb dX6_findWays_57 hl (k := 3) rfl (by rw [ey5]; rfl) (by decide) rfl (fun ls hl => ?_)
        refine lv_goto (tgt := 4) hx hb dX6_findWays_60 (by decide) ?_
        exact ih r2 k0_waysTo x2 y5 _ _ ls hf hP hD hS (lv_sub hl [1, 2, 3, 0] rfl)
      · have hf := if_f hc hf
        refine lv_aload_n hx hb dX6_findWays_31 rfl (lv_at hl 0 rfl) ?_
        refine va_get (D := G.1) (ci := 6) (v := .ref q0_other) (C := RX6) (T := TX6) (N := 16) hx hb hts nX6_findWays_X6 hown hG.1 hP 0 rfl rfl 1 (by decide) (hts _ mX6_findWays_1) (fun _ h9 => h9) rfl dX6_findWays_32 ?_
        refine lv_iload_n hx hb dX6_findWays_35 rfl (lv_at hl 3 rfl) ?_
        refine lv_iload_n hx hb dX6_findWays_36 rfl (lv_at hl 3 rfl) ?_
        refine lv_iconst (v := (1 : Int32)) hx hb dX6_findWays_37 (by decide) ?_
        refine lv_iadd hx hb dX6_findWays_38 ?_
        obtain ⟨r6, hr6, hf⟩ := bd_use hf
        refine cl_S (wn := (wdX6_findWays G q0 q0_one q0_other q0_third q0_waysTo q0_poly q0_then q0_steps q0_sheet q0_next q0_wide q0_partOf q0_partTimes q0_foundAt r6 k0_waysTo k0_isParted k0_parts k0_found)) (st1 := []) C hP hD hS (tX6_exchange l G q0_other r2 x3 (x3 + (1 : Int32)) r6 hr6) (va_cwS 3 hts gX6_findWays_X6_exchange rfl rfl rfl (by decide +kernel) ⟨Nat.le_of_ble_eq_true rfl, Nat.le_of_ble_eq_true rfl⟩) [1] [0, 2] [0, 2, 1] rfl rfl rfl rfl (by decide) rfl rfl rfl hl.1 rfl rfl (Nat.le_of_ble_eq_true rfl) dX6_findWays_39 (fun H locs hP hD hS => ?_)
        refine lv_iload_n hx hb dX6_findWays_42 rfl (lv_at hl 2 rfl) ?_
        refine lv_aload_n hx hb dX6_findWays_43 rfl (lv_at hl 0 rfl) ?_
        refine va_get (D := G.1) (ci := 6) (v := .ref q0_waysTo) (C := RX6) (T := TX6) (N := 16) hx hb hts nX6_findWays_X6 hown hG.1 hP 0 rfl rfl 3 (by decide) (hts _ mX6_findWays_0) (fun _ h9 => h9) rfl dX6_findWays_44 ?_
        refine lv_aload_n hx hb dX6_findWays_47 rfl (lv_at hl 0 rfl) ?_
        refine va_get (D := G.1) (ci := 6) (v := .ref q0_other) (C := RX6) (T := TX6) (N := 16) hx hb hts nX6_findWays_X6 hown hG.1 hP 0 rfl rfl 1 (by decide) (hts _ mX6_findWays_1) (fun _ h9 => h9) rfl dX6_findWays_48 ?_
        obtain ⟨r7, hr7, hf⟩ := bd_use hf
        refine cl_S (wn := (wdX6_findWays G q0 q0_one q0_other q0_third q0_waysTo q0_poly q0_then q0_steps q0_sheet q0_next q0_wide q0_partOf q0_partTimes q0_foundAt r6 k0_waysTo k0_isParted k0_parts k0_found)) (st1 := [.int r7, .ref q0_waysTo, .int x2]) C hP hD hS (tX6_smallOf l G q0_other r6 r7 hr7) (va_cwS 1 hts gX6_findWays_X6_smallOf rfl rfl rfl (by decide +kernel) ⟨Nat.le_of_ble_eq_true rfl, Nat.le_of_ble_eq_true rfl⟩) [1] [0, 2] [0, 2, 1] rfl rfl rfl rfl (by decide) rfl rfl rfl hl.1 rfl rfl (Nat.le_of_ble_eq_true rfl) dX6_findWays_51 (fun H locs hP hD hS => ?_)
        obtain ⟨hin, hf⟩ := gI_use hf
        refine va_iald hx hb hG.1 hP 2 0 rfl rfl hin dX6_findWays_54 ?_
        refine lv_iadd hx hb dX6_findWays_55 ?_
        refine lv_topi (fun y9 ey9 => ?_)
        have hf := nm_use ey9 hf
        refine lv_istore_n (lv' := [(2, .int y9), (0, .ref q0), (1, .int p1), (3, .int x3)]) hx hb dX6_findWays_56 rfl hl (by decide) rfl (fun ls hl => ?_)
        obtain ⟨y10, ey10⟩ : ∃ z : Int32, z = x3 + (1 : Int32) := ⟨_, rfl⟩
        have hf := nm_use ey10 hf
        refine lv_iinc (v := y10) (lv' := [(3, .int y10), (2, .int y9), (0, .ref q0), (1, .int p1)]) hx hb dX6_findWays_57 hl (k := 3) rfl (by rw [ey10]; rfl) (by decide) rfl (fun ls hl => ?_)
        refine lv_goto (tgt := 4) hx hb dX6_findWays_60 (by decide) ?_
        exact ih r6 k0_waysTo y9 y10 _ _ ls hf hP hD hS (lv_sub hl [2, 3, 1, 0] rfl)
set_option maxHeartbeats 4000000 in
set_option maxRecDepth 100000 in
theorem tX6_findWays (l : Launch) (G : GX) (q0 : Nat) (q0_one : Nat) (q0_other : Nat) (q0_third : Nat) (q0_waysTo : Nat) (q0_poly : Nat) (q0_then : Nat) (q0_steps : Nat) (q0_sheet : Nat) (q0_next : Nat) (q0_wide : Nat) (q0_partOf : Nat) (q0_partTimes : Nat) (q0_foundAt : Nat) (k0_other : Nat → Int32) (k0_waysTo : Nat → Int32) (k0_isParted : Int32) (k0_parts : Int32) (k0_found : Int32) (p1 : Int32) (res : (Nat → Int32) × (Nat → Int32)) (hf : fX6_findWays k0_other k0_waysTo p1 = some res) : Ct l yX6_findWays wsX6_findWays rmX6_findWays G [.ref q0, .int p1] (wdX6_findWays G q0 q0_one q0_other q0_third q0_waysTo q0_poly q0_then q0_steps q0_sheet q0_next q0_wide q0_partOf q0_partTimes q0_foundAt k0_other k0_waysTo k0_isParted k0_parts k0_found) (wdX6_findWays G q0 q0_one q0_other q0_third q0_waysTo q0_poly q0_then q0_steps q0_sheet q0_next q0_wide q0_partOf q0_partTimes q0_foundAt res.1 res.2 k0_isParted k0_parts k0_found) none := by
  refine Ct.of (cc := cX6_findWays) (nL := 4) (ret := none) (by decide) rfl (Nat.le_of_ble_eq_true rfl) rfl ?_
  intro p e s m below meth c A ls C hP hD hl
  obtain ⟨hx, hb, hml, hown, hts, hr, hlocks, hA, hG⟩ := id C
  have hS : va_S A s.heap s.heap [] := va_S.rf
  unfold fX6_findWays at hf
  refine lv_iconst (v := (0 : Int32)) hx hb dX6_findWays_0 (by decide) ?_
  refine lv_istore_n (lv' := [(2, .int (0 : Int32)), (0, .ref q0), (1, .int p1)]) hx hb dX6_findWays_1 rfl hl (by decide) rfl (fun ls hl => ?_)
  refine lv_iconst (v := (1 : Int32)) hx hb dX6_findWays_2 (by decide) ?_
  refine lv_istore_n (lv' := [(3, .int (1 : Int32)), (2, .int (0 : Int32)), (0, .ref q0), (1, .int p1)]) hx hb dX6_findWays_3 rfl hl (by decide) rfl (fun ls hl => ?_)
  exact wX6_findWays_4 C q0 q0_one q0_other q0_third q0_waysTo q0_poly q0_then q0_steps q0_sheet q0_next q0_wide q0_partOf q0_partTimes q0_foundAt k0_isParted k0_parts k0_found p1 res fu k0_other k0_waysTo (0 : Int32) (1 : Int32) _ _ ls hf hP hD hS (lv_sub hl [2, 3, 1, 0] rfl)
abbrev wdX6_words (G : GX) (q0 : Nat) (q0_one : Nat) (q0_other : Nat) (q0_third : Nat) (q0_waysTo : Nat) (q0_poly : Nat) (q0_then : Nat) (q0_steps : Nat) (q0_sheet : Nat) (q0_next : Nat) (q0_wide : Nat) (q0_partOf : Nat) (q0_partTimes : Nat) (q0_foundAt : Nat) (k0_one : Nat → Int32) (k0_other : Nat → Int32) (k0_waysTo : Nat → Int32) (k0_isParted : Int32) (k0_parts : Int32) (k0_found : Int32) : va_W := [(q0, .inr (6, [.ref q0_one, .ref q0_other, .ref q0_third, .ref q0_waysTo, .ref q0_poly, .ref q0_then, .ref q0_steps, .ref q0_sheet, .ref q0_next, .int k0_isParted, .ref q0_wide, .int k0_parts, .ref q0_partOf, .ref q0_partTimes, .int k0_found, .ref q0_foundAt])), (q0_one, .inl (G.2.1, 10, .inl k0_one)), (q0_other, .inl (G.2.1, 10, .inl k0_other)), (q0_waysTo, .inl (G.2.1, 120, .inl k0_waysTo))]
abbrev rmX6_words : Room := { frames := 3, cells := 0, slots := 0, locals := 73 }
abbrev glX6_words (p : Program) (l : Launch) (e : Env) (s : State) (m : MethodId) (args : Array Value) (below : List Frame) (meth : Method) (c : Code) (G : GX) (A : Nat → Prop) (q0 : Nat) (q0_one : Nat) (q0_other : Nat) (q0_third : Nat) (q0_waysTo : Nat) (q0_poly : Nat) (q0_then : Nat) (q0_steps : Nat) (q0_sheet : Nat) (q0_next : Nat) (q0_wide : Nat) (q0_partOf : Nat) (q0_partTimes : Nat) (q0_foundAt : Nat) (k0_isParted : Int32) (k0_parts : Int32) (k0_found : Int32) (res : Int32 × (Nat → Int32) × (Nat → Int32) × (Nat → Int32)) (H : Heap) (locs : List Loc) (pc : Nat) (ls : Array Slot) (st : List Value) : Prop := W p l e rmX6_words s m args below meth c H locs 0 0 (MQ below (ctQ G A (wdX6_words G q0 q0_one q0_other q0_third q0_waysTo q0_poly q0_then q0_steps q0_sheet q0_next q0_wide q0_partOf q0_partTimes q0_foundAt res.2.1 res.2.2.1 res.2.2.2 k0_isParted k0_parts k0_found) (some (.int res.1))) args s 0 0 A) (F0 m pc ls st)
set_option maxRecDepth 20000 in
theorem mX6_words_0 : Cond.fieldLink RX6 19 "SchubertDeskModel" "waysTo" "[I" ∈ wsX6_words := by decide +kernel
set_option maxRecDepth 20000 in
theorem mX6_words_1 : Cond.fieldLink RX6 7 "SchubertDeskModel" "one" "[I" ∈ wsX6_words := by decide +kernel
set_option maxRecDepth 20000 in
theorem nX6_words_X6 : ∀ w ∈ u_ws RX6 TX6 16, w ∈ wsX6_words := by decide +kernel
set_option maxHeartbeats 4000000 in
set_option maxRecDepth 100000 in
theorem wX6_words_45 {p : Program} {l : Launch} {e : Env} {s : State} {m : MethodId} {args : Array Value} {below : List Frame} {meth : Method} {c : Code} {G : GX} {A : Nat → Prop} (C : Cx p s m args meth c cX6_words 5 (some .int) wsX6_words RX6 G A) (q0 : Nat) (q0_one : Nat) (q0_other : Nat) (q0_third : Nat) (q0_waysTo : Nat) (q0_poly : Nat) (q0_then : Nat) (q0_steps : Nat) (q0_sheet : Nat) (q0_next : Nat) (q0_wide : Nat) (q0_partOf : Nat) (q0_partTimes : Nat) (q0_foundAt : Nat) (k0_isParted : Int32) (k0_parts : Int32) (k0_found : Int32) (p1 : Int32) (res : Int32 × (Nat → Int32) × (Nat → Int32) × (Nat → Int32)) (rec37 : (Nat → Int32) → (Nat → Int32) → (Nat → Int32) → Int32 → Int32 → Option (Int32 × (Nat → Int32) × (Nat → Int32) × (Nat → Int32))) (hr37 : ∀ (k0_one : Nat → Int32) (k0_other : Nat → Int32) (k0_waysTo : Nat → Int32) (x2 : Int32) (x3 : Int32) (H : Heap) (locs : List Loc) (ls : Array Slot), rec37 k0_one k0_other k0_waysTo x2 x3 = some res → va_P G.1 vwCl (wdX6_words G q0 q0_one q0_other q0_third q0_waysTo q0_poly q0_then q0_steps q0_sheet q0_next q0_wide q0_partOf q0_partTimes q0_foundAt k0_one k0_other k0_waysTo k0_isParted k0_parts k0_found) H → va_D A (wdX6_words G q0 q0_one q0_other q0_third q0_waysTo q0_poly q0_then q0_steps q0_sheet q0_next q0_wide q0_partOf q0_partTimes q0_foundAt k0_one k0_other k0_waysTo k0_isParted k0_parts k0_found) → va_S A s.heap H locs → lv_has ls 5 [(0, .ref q0), (2, .int x2), (3, .int x3)] → glX6_words p l e s m args below meth c G A q0 q0_one q0_other q0_third q0_waysTo q0_poly q0_then q0_steps q0_sheet q0_next q0_wide q0_partOf q0_partTimes q0_foundAt k0_isParted k0_parts k0_found res H locs 37 ls []) (n : Nat) : ∀ (k0_one : Nat → Int32) (k0_other : Nat → Int32) (k0_waysTo : Nat → Int32) (x2 : Int32) (x3 : Int32) (x4 : Int32) (H : Heap) (locs : List Loc) (ls : Array Slot), fX6_words_L45 p1 rec37 n k0_one k0_other k0_waysTo x2 x3 x4 = some res → va_P G.1 vwCl (wdX6_words G q0 q0_one q0_other q0_third q0_waysTo q0_poly q0_then q0_steps q0_sheet q0_next q0_wide q0_partOf q0_partTimes q0_foundAt k0_one k0_other k0_waysTo k0_isParted k0_parts k0_found) H → va_D A (wdX6_words G q0 q0_one q0_other q0_third q0_waysTo q0_poly q0_then q0_steps q0_sheet q0_next q0_wide q0_partOf q0_partTimes q0_foundAt k0_one k0_other k0_waysTo k0_isParted k0_parts k0_found) → va_S A s.heap H locs → lv_has ls 5 [(0, .ref q0), (2, .int x2), (3, .int x3), (4, .int x4)] → glX6_words p l e s m args below meth c G A q0 q0_one q0_other q0_third q0_waysTo q0_poly q0_then q0_steps q0_sheet q0_next q0_wide q0_partOf q0_partTimes q0_foundAt k0_isParted k0_parts k0_found res H locs 45 ls [] := by
  obtain ⟨hx, hb, hml, hown, hts, hr, hlocks, hA, hG⟩ := id C
  induction n with
  | zero => intro k0_one k0_other k0_waysTo x2 x3 x4 H locs ls hf hP hD hS hl; cases hf
  | succ n ih =>
    intro k0_one k0_other k0_waysTo x2 x3 x4 H locs ls hf hP hD hS hl
    simp only [fX6_words_L45] at hf
    refine lv_iload hx hb dX6_words_45 (lv_at hl 3 rfl) ?_
    refine lv_bipush (v := (120 : Int32)) hx hb dX6_words_47 (by decide) ?_
    refine lv_icmp_ge (tgt := 93) hx hb dX6_words_49 (by decide) (fun hc => ?_) (fun hc => ?_)
    · have hf := if_t hc hf
      obtain ⟨y1, ey1⟩ : ∃ z : Int32, z = x3 + (1 : Int32) := ⟨_, rfl⟩
      have hf := nm_use ey1 hf
      refine lv_iinc (v := y1) (lv' := [(3, .int y1), (0, .ref q0), (2, .int x2), (4, .int x4)]) hx hb dX6_words_93 hl (k := 2) rfl (by rw [ey1]; rfl) (by decide) rfl (fun ls hl => ?_)
      refine lv_goto (tgt := 37) hx hb dX6_words_96 (by decide) ?_
      exact hr37 k0_one k0_other k0_waysTo x2 y1 _ _ ls hf hP hD hS (lv_sub hl [1, 2, 0] rfl)
    · have hf := if_f hc hf
      refine lv_iload hx hb dX6_words_52 (lv_at hl 3 rfl) ?_
      refine lv_bipush (v := (24 : Int32)) hx hb dX6_words_54 (by decide) ?_
      refine lv_idiv hx hb dX6_words_56 (by decide) ?_
      refine lv_iload hx hb dX6_words_57 (lv_at hl 3 rfl) ?_
      refine lv_bipush (v := (6 : Int32)) hx hb dX6_words_59 (by decide) ?_
      refine lv_idiv hx hb dX6_words_61 (by decide) ?_
      refine lv_iconst (v := (4 : Int32)) hx hb dX6_words_62 (by decide) ?_
      refine lv_irem hx hb dX6_words_63 (by decide) ?_
      refine lv_iadd hx hb dX6_words_64 ?_
      refine lv_iload hx hb dX6_words_65 (lv_at hl 3 rfl) ?_
      refine lv_iconst (v := (2 : Int32)) hx hb dX6_words_67 (by decide) ?_
      refine lv_idiv hx hb dX6_words_68 (by decide) ?_
      refine lv_iconst (v := (3 : Int32)) hx hb dX6_words_69 (by decide) ?_
      refine lv_irem hx hb dX6_words_70 (by decide) ?_
      refine lv_iadd hx hb dX6_words_71 ?_
      refine lv_iload hx hb dX6_words_72 (lv_at hl 3 rfl) ?_
      refine lv_iconst (v := (2 : Int32)) hx hb dX6_words_74 (by decide) ?_
      refine lv_irem hx hb dX6_words_75 (by decide) ?_
      refine lv_iadd hx hb dX6_words_76 ?_
      refine lv_iload_n hx hb dX6_words_77 rfl (lv_at hl 2 rfl) ?_
      refine lv_icmp_ne (tgt := 87) hx hb dX6_words_78 (by decide) (fun hc => ?_) (fun hc => ?_)
      · have hf := if_f hc hf
        obtain ⟨y2, ey2⟩ : ∃ z : Int32, z = x4 + (1 : Int32) := ⟨_, rfl⟩
        have hf := nm_use ey2 hf
        refine lv_iinc (v := y2) (lv' := [(4, .int y2), (0, .ref q0), (2, .int x2), (3, .int x3)]) hx hb dX6_words_87 hl (k := 3) rfl (by rw [ey2]; rfl) (by decide) rfl (fun ls hl => ?_)
        refine lv_goto (tgt := 45) hx hb dX6_words_90 (by decide) ?_
        exact ih k0_one k0_other k0_waysTo x2 x3 y2 _ _ ls hf hP hD hS (lv_sub hl [1, 2, 3, 0] rfl)
      · have hf := if_t hc hf
        refine lv_aload_n hx hb dX6_words_81 rfl (lv_at hl 0 rfl) ?_
        refine lv_iload hx hb dX6_words_82 (lv_at hl 3 rfl) ?_
        obtain ⟨r3, hr3, hf⟩ := bd_use hf
        refine cl_V (wn := (wdX6_words G q0 q0_one q0_other q0_third q0_waysTo q0_poly q0_then q0_steps q0_sheet q0_next q0_wide q0_partOf q0_partTimes q0_foundAt k0_one r3.1 r3.2 k0_isParted k0_parts k0_found)) (st1 := []) C hP hD hS (tX6_findWays l G q0 q0_one q0_other q0_third q0_waysTo q0_poly q0_then q0_steps q0_sheet q0_next q0_wide q0_partOf q0_partTimes q0_foundAt k0_other k0_waysTo k0_isParted k0_parts k0_found x4 r3 hr3) (cwV 1 hts gX6_words_X6_findWays rfl rfl rfl (by decide +kernel) ⟨Nat.le_of_ble_eq_true rfl, Nat.le_of_ble_eq_true rfl⟩) [0, 2, 3] [1] [1, 0, 2, 3] rfl rfl rfl rfl (by decide) rfl rfl (ci := 6) (q0 := 0) rfl rfl rfl rfl hl.1 rfl rfl (Nat.le_of_ble_eq_true rfl) dX6_words_84 (fun H locs hP hD hS => ?_)
        obtain ⟨y4, ey4⟩ : ∃ z : Int32, z = x4 + (1 : Int32) := ⟨_, rfl⟩
        have hf := nm_use ey4 hf
        refine lv_iinc (v := y4) (lv' := [(4, .int y4), (0, .ref q0), (2, .int x2), (3, .int x3)]) hx hb dX6_words_87 hl (k := 3) rfl (by rw [ey4]; rfl) (by decide) rfl (fun ls hl => ?_)
        refine lv_goto (tgt := 45) hx hb dX6_words_90 (by decide) ?_
        exact ih k0_one r3.1 r3.2 x2 x3 y4 _ _ ls hf hP hD hS (lv_sub hl [1, 2, 3, 0] rfl)
set_option maxHeartbeats 4000000 in
set_option maxRecDepth 100000 in
theorem wX6_words_37 {p : Program} {l : Launch} {e : Env} {s : State} {m : MethodId} {args : Array Value} {below : List Frame} {meth : Method} {c : Code} {G : GX} {A : Nat → Prop} (C : Cx p s m args meth c cX6_words 5 (some .int) wsX6_words RX6 G A) (q0 : Nat) (q0_one : Nat) (q0_other : Nat) (q0_third : Nat) (q0_waysTo : Nat) (q0_poly : Nat) (q0_then : Nat) (q0_steps : Nat) (q0_sheet : Nat) (q0_next : Nat) (q0_wide : Nat) (q0_partOf : Nat) (q0_partTimes : Nat) (q0_foundAt : Nat) (k0_isParted : Int32) (k0_parts : Int32) (k0_found : Int32) (p1 : Int32) (res : Int32 × (Nat → Int32) × (Nat → Int32) × (Nat → Int32)) (n : Nat) : ∀ (k0_one : Nat → Int32) (k0_other : Nat → Int32) (k0_waysTo : Nat → Int32) (x2 : Int32) (x3 : Int32) (H : Heap) (locs : List Loc) (ls : Array Slot), fX6_words_L37 p1 n k0_one k0_other k0_waysTo x2 x3 = some res → va_P G.1 vwCl (wdX6_words G q0 q0_one q0_other q0_third q0_waysTo q0_poly q0_then q0_steps q0_sheet q0_next q0_wide q0_partOf q0_partTimes q0_foundAt k0_one k0_other k0_waysTo k0_isParted k0_parts k0_found) H → va_D A (wdX6_words G q0 q0_one q0_other q0_third q0_waysTo q0_poly q0_then q0_steps q0_sheet q0_next q0_wide q0_partOf q0_partTimes q0_foundAt k0_one k0_other k0_waysTo k0_isParted k0_parts k0_found) → va_S A s.heap H locs → lv_has ls 5 [(0, .ref q0), (2, .int x2), (3, .int x3)] → glX6_words p l e s m args below meth c G A q0 q0_one q0_other q0_third q0_waysTo q0_poly q0_then q0_steps q0_sheet q0_next q0_wide q0_partOf q0_partTimes q0_foundAt k0_isParted k0_parts k0_found res H locs 37 ls [] := by
  obtain ⟨hx, hb, hml, hown, hts, hr, hlocks, hA, hG⟩ := id C
  induction n with
  | zero => intro k0_one k0_other k0_waysTo x2 x3 H locs ls hf hP hD hS hl; cases hf
  | succ n ih =>
    intro k0_one k0_other k0_waysTo x2 x3 H locs ls hf hP hD hS hl
    simp only [fX6_words_L37] at hf
    refine lv_iload_n hx hb dX6_words_37 rfl (lv_at hl 2 rfl) ?_
    refine lv_iload_n hx hb dX6_words_38 rfl (lv_at hl 1 rfl) ?_
    refine lv_icmp_gt (tgt := 99) hx hb dX6_words_39 (by decide) (fun hc => ?_) (fun hc => ?_)
    · have hf := if_t hc hf
      refine lv_aload_n hx hb dX6_words_99 rfl (lv_at hl 0 rfl) ?_
      refine va_get (D := G.1) (ci := 6) (v := .ref q0_waysTo) (C := RX6) (T := TX6) (N := 16) hx hb hts nX6_words_X6 hown hG.1 hP 0 rfl rfl 3 (by decide) (hts _ mX6_words_0) (fun _ h9 => h9) rfl dX6_words_100 ?_
      refine lv_aload_n hx hb dX6_words_103 rfl (lv_at hl 0 rfl) ?_
      refine va_get (D := G.1) (ci := 6) (v := .ref q0_one) (C := RX6) (T := TX6) (N := 16) hx hb hts nX6_words_X6 hown hG.1 hP 0 rfl rfl 0 (by decide) (hts _ mX6_words_1) (fun _ h9 => h9) rfl dX6_words_104 ?_
      obtain ⟨r5, hr5, hf⟩ := bd_use hf
      refine cl_S (wn := (wdX6_words G q0 q0_one q0_other q0_third q0_waysTo q0_poly q0_then q0_steps q0_sheet q0_next q0_wide q0_partOf q0_partTimes q0_foundAt k0_one k0_other k0_waysTo k0_isParted k0_parts k0_found)) (st1 := [.int r5, .ref q0_waysTo]) C hP hD hS (tX6_smallOf l G q0_one k0_one r5 hr5) (va_cwS 1 hts gX6_words_X6_smallOf rfl rfl rfl (by decide +kernel) ⟨Nat.le_of_ble_eq_true rfl, Nat.le_of_ble_eq_true rfl⟩) [1] [0, 2, 3] [0, 3, 1, 2] rfl rfl rfl rfl (by decide) rfl rfl rfl hl.1 rfl rfl (Nat.le_of_ble_eq_true rfl) dX6_words_107 (fun H locs hP hD hS => ?_)
      obtain ⟨hin, hf⟩ := gI_use hf
      refine va_iald hx hb hG.1 hP 3 0 rfl rfl hin dX6_words_110 ?_
      cases hf
      exact rt_i C hP hD hS dX6_words_111
    · have hf := if_f hc hf
      refine lv_iconst (v := (0 : Int32)) hx hb dX6_words_42 (by decide) ?_
      refine lv_istore (lv' := [(4, .int (0 : Int32)), (0, .ref q0), (2, .int x2), (3, .int x3)]) hx hb dX6_words_43 hl (by decide) rfl (fun ls hl => ?_)
      exact wX6_words_45 C q0 q0_one q0_other q0_third q0_waysTo q0_poly q0_then q0_steps q0_sheet q0_next q0_wide q0_partOf q0_partTimes q0_foundAt k0_isParted k0_parts k0_found p1 res (fX6_words_L37 p1 n) ih fu k0_one k0_other k0_waysTo x2 x3 (0 : Int32) _ _ ls hf hP hD hS (lv_sub hl [1, 2, 3, 0] rfl)
set_option maxHeartbeats 4000000 in
set_option maxRecDepth 100000 in
theorem tX6_words (l : Launch) (G : GX) (q0 : Nat) (q0_one : Nat) (q0_other : Nat) (q0_third : Nat) (q0_waysTo : Nat) (q0_poly : Nat) (q0_then : Nat) (q0_steps : Nat) (q0_sheet : Nat) (q0_next : Nat) (q0_wide : Nat) (q0_partOf : Nat) (q0_partTimes : Nat) (q0_foundAt : Nat) (k0_one : Nat → Int32) (k0_other : Nat → Int32) (k0_waysTo : Nat → Int32) (k0_isParted : Int32) (k0_parts : Int32) (k0_found : Int32) (p1 : Int32) (res : Int32 × (Nat → Int32) × (Nat → Int32) × (Nat → Int32)) (hf : fX6_words k0_one k0_other k0_waysTo p1 = some res) : Ct l yX6_words wsX6_words rmX6_words G [.ref q0, .int p1] (wdX6_words G q0 q0_one q0_other q0_third q0_waysTo q0_poly q0_then q0_steps q0_sheet q0_next q0_wide q0_partOf q0_partTimes q0_foundAt k0_one k0_other k0_waysTo k0_isParted k0_parts k0_found) (wdX6_words G q0 q0_one q0_other q0_third q0_waysTo q0_poly q0_then q0_steps q0_sheet q0_next q0_wide q0_partOf q0_partTimes q0_foundAt res.2.1 res.2.2.1 res.2.2.2 k0_isParted k0_parts k0_found) (some (.int res.1)) := by
  refine Ct.of (cc := cX6_words) (nL := 5) (ret := (some .int)) (by decide) rfl (Nat.le_of_ble_eq_true rfl) rfl ?_
  intro p e s m below meth c A ls C hP hD hl
  obtain ⟨hx, hb, hml, hown, hts, hr, hlocks, hA, hG⟩ := id C
  have hS : va_S A s.heap s.heap [] := va_S.rf
  unfold fX6_words at hf
  refine lv_iload_n hx hb dX6_words_0 rfl (lv_at hl 1 rfl) ?_
  refine lv_aload_n hx hb dX6_words_1 rfl (lv_at hl 0 rfl) ?_
  refine va_get (D := G.1) (ci := 6) (v := .ref q0_one) (C := RX6) (T := TX6) (N := 16) hx hb hts nX6_words_X6 hown hG.1 hP 0 rfl rfl 0 (by decide) (hts _ mX6_words_1) (fun _ h9 => h9) rfl dX6_words_2 ?_
  obtain ⟨r7, hr7, hf⟩ := bd_use hf
  refine cl_S (wn := (wdX6_words G q0 q0_one q0_other q0_third q0_waysTo q0_poly q0_then q0_steps q0_sheet q0_next q0_wide q0_partOf q0_partTimes q0_foundAt r7.2 k0_other k0_waysTo k0_isParted k0_parts k0_found)) (st1 := [.int r7.1]) C hP hD hS (tX6_lays l G q0_one k0_one p1 r7 hr7) (va_cwS 2 hts gX6_words_X6_lays rfl rfl rfl (by decide +kernel) ⟨Nat.le_of_ble_eq_true rfl, Nat.le_of_ble_eq_true rfl⟩) [1] [0, 2, 3] [0, 3, 1, 2] rfl rfl rfl rfl (by decide) rfl rfl rfl hl.1 rfl rfl (Nat.le_of_ble_eq_true rfl) dX6_words_5 (fun H locs hP hD hS => ?_)
  refine lv_if_ne (tgt := 14) hx hb dX6_words_8 (by decide) (fun hc => ?_) (fun hc => ?_)
  · have hf := if_f hc hf
    refine lv_aload_n hx hb dX6_words_14 rfl (lv_at hl 0 rfl) ?_
    refine va_get (D := G.1) (ci := 6) (v := .ref q0_one) (C := RX6) (T := TX6) (N := 16) hx hb hts nX6_words_X6 hown hG.1 hP 0 rfl rfl 0 (by decide) (hts _ mX6_words_1) (fun _ h9 => h9) rfl dX6_words_15 ?_
    obtain ⟨r8, hr8, hf⟩ := bd_use hf
    refine cl_S (wn := (wdX6_words G q0 q0_one q0_other q0_third q0_waysTo q0_poly q0_then q0_steps q0_sheet q0_next q0_wide q0_partOf q0_partTimes q0_foundAt r7.2 k0_other k0_waysTo k0_isParted k0_parts k0_found)) (st1 := [.int r8]) C hP hD hS (tX6_isSmall l G q0_one r7.2 r8 hr8) (va_cwS 1 hts gX6_words_X6_isSmall rfl rfl rfl (by decide +kernel) ⟨Nat.le_of_ble_eq_true rfl, Nat.le_of_ble_eq_true rfl⟩) [1] [0, 2, 3] [0, 3, 1, 2] rfl rfl rfl rfl (by decide) rfl rfl rfl hl.1 rfl rfl (Nat.le_of_ble_eq_true rfl) dX6_words_18 (fun H locs hP hD hS => ?_)
    refine lv_if_ne (tgt := 27) hx hb dX6_words_21 (by decide) (fun hc => ?_) (fun hc => ?_)
    · have hf := if_f hc hf
      refine lv_aload_n hx hb dX6_words_27 rfl (lv_at hl 0 rfl) ?_
      refine va_get (D := G.1) (ci := 6) (v := .ref q0_one) (C := RX6) (T := TX6) (N := 16) hx hb hts nX6_words_X6 hown hG.1 hP 0 rfl rfl 0 (by decide) (hts _ mX6_words_1) (fun _ h9 => h9) rfl dX6_words_28 ?_
      obtain ⟨r9, hr9, hf⟩ := bd_use hf
      refine cl_S (wn := (wdX6_words G q0 q0_one q0_other q0_third q0_waysTo q0_poly q0_then q0_steps q0_sheet q0_next q0_wide q0_partOf q0_partTimes q0_foundAt r7.2 k0_other k0_waysTo k0_isParted k0_parts k0_found)) (st1 := [.int r9]) C hP hD hS (tX6_lengthOf l G q0_one r7.2 r9 hr9) (va_cwS 1 hts gX6_words_X6_lengthOf rfl rfl rfl (by decide +kernel) ⟨Nat.le_of_ble_eq_true rfl, Nat.le_of_ble_eq_true rfl⟩) [1] [0, 2, 3] [0, 3, 1, 2] rfl rfl rfl rfl (by decide) rfl rfl rfl hl.1 rfl rfl (Nat.le_of_ble_eq_true rfl) dX6_words_31 (fun H locs hP hD hS => ?_)
      refine lv_istore_n (lv' := [(2, .int r9), (0, .ref q0), (1, .int p1)]) hx hb dX6_words_34 rfl hl (by decide) rfl (fun ls hl => ?_)
      refine lv_iconst (v := (0 : Int32)) hx hb dX6_words_35 (by decide) ?_
      refine lv_istore_n (lv' := [(3, .int (0 : Int32)), (2, .int r9), (0, .ref q0), (1, .int p1)]) hx hb dX6_words_36 rfl hl (by decide) rfl (fun ls hl => ?_)
      exact wX6_words_37 C q0 q0_one q0_other q0_third q0_waysTo q0_poly q0_then q0_steps q0_sheet q0_next q0_wide q0_partOf q0_partTimes q0_foundAt k0_isParted k0_parts k0_found p1 res fu r7.2 k0_other k0_waysTo r9 (0 : Int32) _ _ ls hf hP hD hS (lv_sub hl [2, 1, 0] rfl)
    · have hf := if_t hc hf
      refine lv_bipush (v := (-3 : Int32)) hx hb dX6_words_24 (by decide) ?_
      cases hf
      exact rt_i C hP hD hS dX6_words_26
  · have hf := if_t hc hf
    refine lv_bipush (v := (-2 : Int32)) hx hb dX6_words_11 (by decide) ?_
    cases hf
    exact rt_i C hP hD hS dX6_words_13
abbrev wdX6_cellOf (G : GX) : va_W := []
abbrev rmX6_cellOf : Room := { frames := 0, cells := 0, slots := 0, locals := 0 }
abbrev glX6_cellOf (p : Program) (l : Launch) (e : Env) (s : State) (m : MethodId) (args : Array Value) (below : List Frame) (meth : Method) (c : Code) (G : GX) (A : Nat → Prop) (res : Int32) (H : Heap) (locs : List Loc) (pc : Nat) (ls : Array Slot) (st : List Value) : Prop := W p l e rmX6_cellOf s m args below meth c H locs 0 0 (MQ below (ctQ G A (wdX6_cellOf G) (some (.int res))) args s 0 0 A) (F0 m pc ls st)
set_option maxHeartbeats 4000000 in
set_option maxRecDepth 100000 in
theorem tX6_cellOf (l : Launch) (G : GX) (p0 : Int32) (p1 : Int32) (p2 : Int32) (p3 : Int32) (res : Int32) (hf : fX6_cellOf p0 p1 p2 p3 = some res) : Ct l yX6_cellOf wsX6_cellOf rmX6_cellOf G [.int p0, .int p1, .int p2, .int p3] (wdX6_cellOf G) (wdX6_cellOf G) (some (.int res)) := by
  refine Ct.of (cc := cX6_cellOf) (nL := 4) (ret := (some .int)) (by decide) rfl (Nat.le_of_ble_eq_true rfl) rfl ?_
  intro p e s m below meth c A ls C hP hD hl
  obtain ⟨hx, hb, hml, hown, hts, hr, hlocks, hA, hG⟩ := id C
  have hS : va_S A s.heap s.heap [] := va_S.rf
  unfold fX6_cellOf at hf
  refine lv_iload_n hx hb dX6_cellOf_0 rfl (lv_at hl 0 rfl) ?_
  refine lv_bipush (v := (8 : Int32)) hx hb dX6_cellOf_1 (by decide) ?_
  refine lv_imul hx hb dX6_cellOf_3 ?_
  refine lv_iload_n hx hb dX6_cellOf_4 rfl (lv_at hl 1 rfl) ?_
  refine lv_iadd hx hb dX6_cellOf_5 ?_
  refine lv_bipush (v := (7 : Int32)) hx hb dX6_cellOf_6 (by decide) ?_
  refine lv_imul hx hb dX6_cellOf_8 ?_
  refine lv_iload_n hx hb dX6_cellOf_9 rfl (lv_at hl 2 rfl) ?_
  refine lv_iadd hx hb dX6_cellOf_10 ?_
  refine lv_bipush (v := (6 : Int32)) hx hb dX6_cellOf_11 (by decide) ?_
  refine lv_imul hx hb dX6_cellOf_13 ?_
  refine lv_iload_n hx hb dX6_cellOf_14 rfl (lv_at hl 3 rfl) ?_
  refine lv_iadd hx hb dX6_cellOf_15 ?_
  cases hf
  exact rt_i C hP hD hS dX6_cellOf_16
abbrev wdX6_isCell (G : GX) : va_W := []
abbrev rmX6_isCell : Room := { frames := 1, cells := 0, slots := 0, locals := 22 }
abbrev glX6_isCell (p : Program) (l : Launch) (e : Env) (s : State) (m : MethodId) (args : Array Value) (below : List Frame) (meth : Method) (c : Code) (G : GX) (A : Nat → Prop) (res : Int32) (H : Heap) (locs : List Loc) (pc : Nat) (ls : Array Slot) (st : List Value) : Prop := W p l e rmX6_isCell s m args below meth c H locs 0 0 (MQ below (ctQ G A (wdX6_isCell G) (some (.int res))) args s 0 0 A) (F0 m pc ls st)
set_option maxHeartbeats 4000000 in
set_option maxRecDepth 100000 in
theorem tX6_isCell (l : Launch) (G : GX) (p0 : Int32) (p1 : Int32) (p2 : Int32) (p3 : Int32) (res : Int32) (hf : fX6_isCell p0 p1 p2 p3 = some res) : Ct l yX6_isCell wsX6_isCell rmX6_isCell G [.int p0, .int p1, .int p2, .int p3] (wdX6_isCell G) (wdX6_isCell G) (some (.int res)) := by
  refine Ct.of (cc := cX6_isCell) (nL := 4) (ret := (some .boolean)) (by decide) rfl (Nat.le_of_ble_eq_true rfl) rfl ?_
  intro p e s m below meth c A ls C hP hD hl
  obtain ⟨hx, hb, hml, hown, hts, hr, hlocks, hA, hG⟩ := id C
  have hS : va_S A s.heap s.heap [] := va_S.rf
  unfold fX6_isCell at hf
  refine lv_iload_n hx hb dX6_isCell_0 rfl (lv_at hl 0 rfl) ?_
  refine lv_iconst (v := (0 : Int32)) hx hb dX6_isCell_1 (by decide) ?_
  refine lv_bipush (v := (8 : Int32)) hx hb dX6_isCell_2 (by decide) ?_
  obtain ⟨r1, hr1, hf⟩ := bd_use hf
  refine cl_S (wn := (wdX6_isCell G)) (st1 := [.int r1]) C hP hD hS (tX6_within l G p0 (0 : Int32) (8 : Int32) r1 hr1) (va_cwS 3 hts gX6_isCell_X6_within rfl rfl rfl (by decide +kernel) ⟨Nat.le_of_ble_eq_true rfl, Nat.le_of_ble_eq_true rfl⟩) [] [] [] rfl rfl rfl rfl (by decide) rfl rfl rfl hl.1 rfl rfl (Nat.le_of_ble_eq_true rfl) dX6_isCell_4 (fun H locs hP hD hS => ?_)
  refine lv_if_eq (tgt := 43) hx hb dX6_isCell_7 (by decide) (fun hc => ?_) (fun hc => ?_)
  · have hf := if_t hc hf
    refine lv_iconst (v := (0 : Int32)) hx hb dX6_isCell_43 (by decide) ?_
    cases hf
    exact rt_z C (Or.inl rfl) hP hD hS dX6_isCell_44
  · have hf := if_f hc hf
    refine lv_iload_n hx hb dX6_isCell_10 rfl (lv_at hl 1 rfl) ?_
    refine lv_iconst (v := (0 : Int32)) hx hb dX6_isCell_11 (by decide) ?_
    refine lv_bipush (v := (7 : Int32)) hx hb dX6_isCell_12 (by decide) ?_
    obtain ⟨r2, hr2, hf⟩ := bd_use hf
    refine cl_S (wn := (wdX6_isCell G)) (st1 := [.int r2]) C hP hD hS (tX6_within l G p1 (0 : Int32) (7 : Int32) r2 hr2) (va_cwS 3 hts gX6_isCell_X6_within rfl rfl rfl (by decide +kernel) ⟨Nat.le_of_ble_eq_true rfl, Nat.le_of_ble_eq_true rfl⟩) [] [] [] rfl rfl rfl rfl (by decide) rfl rfl rfl hl.1 rfl rfl (Nat.le_of_ble_eq_true rfl) dX6_isCell_14 (fun H locs hP hD hS => ?_)
    refine lv_if_eq (tgt := 43) hx hb dX6_isCell_17 (by decide) (fun hc => ?_) (fun hc => ?_)
    · have hf := if_t hc hf
      refine lv_iconst (v := (0 : Int32)) hx hb dX6_isCell_43 (by decide) ?_
      cases hf
      exact rt_z C (Or.inl rfl) hP hD hS dX6_isCell_44
    · have hf := if_f hc hf
      refine lv_iload_n hx hb dX6_isCell_20 rfl (lv_at hl 2 rfl) ?_
      refine lv_iconst (v := (0 : Int32)) hx hb dX6_isCell_21 (by decide) ?_
      refine lv_bipush (v := (6 : Int32)) hx hb dX6_isCell_22 (by decide) ?_
      obtain ⟨r3, hr3, hf⟩ := bd_use hf
      refine cl_S (wn := (wdX6_isCell G)) (st1 := [.int r3]) C hP hD hS (tX6_within l G p2 (0 : Int32) (6 : Int32) r3 hr3) (va_cwS 3 hts gX6_isCell_X6_within rfl rfl rfl (by decide +kernel) ⟨Nat.le_of_ble_eq_true rfl, Nat.le_of_ble_eq_true rfl⟩) [] [] [] rfl rfl rfl rfl (by decide) rfl rfl rfl hl.1 rfl rfl (Nat.le_of_ble_eq_true rfl) dX6_isCell_24 (fun H locs hP hD hS => ?_)
      refine lv_if_eq (tgt := 43) hx hb dX6_isCell_27 (by decide) (fun hc => ?_) (fun hc => ?_)
      · have hf := if_t hc hf
        refine lv_iconst (v := (0 : Int32)) hx hb dX6_isCell_43 (by decide) ?_
        cases hf
        exact rt_z C (Or.inl rfl) hP hD hS dX6_isCell_44
      · have hf := if_f hc hf
        refine lv_iload_n hx hb dX6_isCell_30 rfl (lv_at hl 3 rfl) ?_
        refine lv_iconst (v := (0 : Int32)) hx hb dX6_isCell_31 (by decide) ?_
        refine lv_iconst (v := (5 : Int32)) hx hb dX6_isCell_32 (by decide) ?_
        obtain ⟨r4, hr4, hf⟩ := bd_use hf
        refine cl_S (wn := (wdX6_isCell G)) (st1 := [.int r4]) C hP hD hS (tX6_within l G p3 (0 : Int32) (5 : Int32) r4 hr4) (va_cwS 3 hts gX6_isCell_X6_within rfl rfl rfl (by decide +kernel) ⟨Nat.le_of_ble_eq_true rfl, Nat.le_of_ble_eq_true rfl⟩) [] [] [] rfl rfl rfl rfl (by decide) rfl rfl rfl hl.1 rfl rfl (Nat.le_of_ble_eq_true rfl) dX6_isCell_33 (fun H locs hP hD hS => ?_)
        refine lv_if_eq (tgt := 43) hx hb dX6_isCell_36 (by decide) (fun hc => ?_) (fun hc => ?_)
        · have hf := if_t hc hf
          refine lv_iconst (v := (0 : Int32)) hx hb dX6_isCell_43 (by decide) ?_
          cases hf
          exact rt_z C (Or.inl rfl) hP hD hS dX6_isCell_44
        · have hf := if_f hc hf
          refine lv_iconst (v := (1 : Int32)) hx hb dX6_isCell_39 (by decide) ?_
          refine lv_goto (tgt := 44) hx hb dX6_isCell_40 (by decide) ?_
          cases hf
          exact rt_z C (Or.inr rfl) hP hD hS dX6_isCell_44
