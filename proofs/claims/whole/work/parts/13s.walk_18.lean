abbrev wdX6_finds (G : GX) (q0 : Nat) (q0_one : Nat) (q0_other : Nat) (q0_third : Nat) (q0_waysTo : Nat) (q0_poly : Nat) (q0_then : Nat) (q0_steps : Nat) (q0_sheet : Nat) (q0_next : Nat) (q0_wide : Nat) (q0_partOf : Nat) (q0_partTimes : Nat) (q0_foundAt : Nat) (k0_isParted : Int32) (k0_parts : Int32) (k0_found : Int32) (k0_foundAt : Nat → Int32) : va_W := [(q0, .inr (6, [.ref q0_one, .ref q0_other, .ref q0_third, .ref q0_waysTo, .ref q0_poly, .ref q0_then, .ref q0_steps, .ref q0_sheet, .ref q0_next, .int k0_isParted, .ref q0_wide, .int k0_parts, .ref q0_partOf, .ref q0_partTimes, .int k0_found, .ref q0_foundAt])), (q0_foundAt, .inl (G.2.1, 64, .inl k0_foundAt))]
abbrev rmX6_finds : Room := { frames := 0, cells := 0, slots := 0, locals := 0 }
abbrev glX6_finds (p : Program) (l : Launch) (e : Env) (s : State) (m : MethodId) (args : Array Value) (below : List Frame) (meth : Method) (c : Code) (G : GX) (A : Nat → Prop) (q0 : Nat) (q0_one : Nat) (q0_other : Nat) (q0_third : Nat) (q0_waysTo : Nat) (q0_poly : Nat) (q0_then : Nat) (q0_steps : Nat) (q0_sheet : Nat) (q0_next : Nat) (q0_wide : Nat) (q0_partOf : Nat) (q0_partTimes : Nat) (q0_foundAt : Nat) (k0_isParted : Int32) (k0_parts : Int32) (res : Int32 × (Nat → Int32)) (H : Heap) (locs : List Loc) (pc : Nat) (ls : Array Slot) (st : List Value) : Prop := W p l e rmX6_finds s m args below meth c H locs 0 0 (MQ below (ctQ G A (wdX6_finds G q0 q0_one q0_other q0_third q0_waysTo q0_poly q0_then q0_steps q0_sheet q0_next q0_wide q0_partOf q0_partTimes q0_foundAt k0_isParted k0_parts res.1 res.2) none) args s 0 0 A) (F0 m pc ls st)
set_option maxRecDepth 20000 in
theorem mX6_finds_0 : Cond.fieldLink RX6 48 "SchubertDeskModel" "foundAt" "[I" ∈ wsX6_finds := by decide +kernel
set_option maxRecDepth 20000 in
theorem mX6_finds_1 : Cond.fieldLink RX6 189 "SchubertDeskModel" "found" "I" ∈ wsX6_finds := by decide +kernel
set_option maxRecDepth 20000 in
theorem nX6_finds_X6 : ∀ w ∈ u_ws RX6 TX6 16, w ∈ wsX6_finds := by decide +kernel
set_option maxHeartbeats 4000000 in
set_option maxRecDepth 100000 in
theorem wX6_finds_50 {p : Program} {l : Launch} {e : Env} {s : State} {m : MethodId} {args : Array Value} {below : List Frame} {meth : Method} {c : Code} {G : GX} {A : Nat → Prop} (C : Cx p s m args meth c cX6_finds 4 none wsX6_finds RX6 G A) (q0 : Nat) (q0_one : Nat) (q0_other : Nat) (q0_third : Nat) (q0_waysTo : Nat) (q0_poly : Nat) (q0_then : Nat) (q0_steps : Nat) (q0_sheet : Nat) (q0_next : Nat) (q0_wide : Nat) (q0_partOf : Nat) (q0_partTimes : Nat) (q0_foundAt : Nat) (k0_isParted : Int32) (k0_parts : Int32) (p1 : Int32) (res : Int32 × (Nat → Int32)) (n : Nat) : ∀ (k0_found : Int32) (k0_foundAt : Nat → Int32) (x2 : Int32) (x3 : Int32) (H : Heap) (locs : List Loc) (ls : Array Slot), fX6_finds_L50 p1 n k0_found k0_foundAt x2 x3 = some res → va_P G.1 vwCl (wdX6_finds G q0 q0_one q0_other q0_third q0_waysTo q0_poly q0_then q0_steps q0_sheet q0_next q0_wide q0_partOf q0_partTimes q0_foundAt k0_isParted k0_parts k0_found k0_foundAt) H → va_D A (wdX6_finds G q0 q0_one q0_other q0_third q0_waysTo q0_poly q0_then q0_steps q0_sheet q0_next q0_wide q0_partOf q0_partTimes q0_foundAt k0_isParted k0_parts k0_found k0_foundAt) → va_S A s.heap H locs → lv_has ls 4 [(0, .ref q0), (1, .int p1), (2, .int x2), (3, .int x3)] → glX6_finds p l e s m args below meth c G A q0 q0_one q0_other q0_third q0_waysTo q0_poly q0_then q0_steps q0_sheet q0_next q0_wide q0_partOf q0_partTimes q0_foundAt k0_isParted k0_parts res H locs 50 ls [] := by
  obtain ⟨hx, hb, hml, hown, hts, hr, hlocks, hA, hG⟩ := id C
  induction n with
  | zero => intro k0_found k0_foundAt x2 x3 H locs ls hf hP hD hS hl; cases hf
  | succ n ih =>
    intro k0_found k0_foundAt x2 x3 H locs ls hf hP hD hS hl
    simp only [fX6_finds_L50] at hf
    refine lv_iload_n hx hb dX6_finds_50 rfl (lv_at hl 3 rfl) ?_
    refine lv_iload_n hx hb dX6_finds_51 rfl (lv_at hl 2 rfl) ?_
    refine lv_icmp_le (tgt := 75) hx hb dX6_finds_52 (by decide) (fun hc => ?_) (fun hc => ?_)
    · have hf := if_t hc hf
      refine lv_aload_n hx hb dX6_finds_75 rfl (lv_at hl 0 rfl) ?_
      refine va_get (D := G.1) (ci := 6) (v := .ref q0_foundAt) (C := RX6) (T := TX6) (N := 16) hx hb hts nX6_finds_X6 hown hG.1 hP 0 rfl rfl 15 (by decide) (hts _ mX6_finds_0) (fun _ h9 => h9) rfl dX6_finds_76 ?_
      refine lv_iload_n hx hb dX6_finds_79 rfl (lv_at hl 2 rfl) ?_
      refine lv_iload_n hx hb dX6_finds_80 rfl (lv_at hl 1 rfl) ?_
      obtain ⟨hin, hf⟩ := pI_use hf
      refine va_iast hx hb hG.1 hP hD hS 1 0 rfl rfl hin dX6_finds_81 (fun H locs hP hD hS => ?_)
      have hP : va_P G.1 vwCl (wdX6_finds G q0 q0_one q0_other q0_third q0_waysTo q0_poly q0_then q0_steps q0_sheet q0_next q0_wide q0_partOf q0_partTimes q0_foundAt k0_isParted k0_parts k0_found (upd k0_foundAt (x2).toNatClampNeg p1)) H := hP
      have hD : va_D A (wdX6_finds G q0 q0_one q0_other q0_third q0_waysTo q0_poly q0_then q0_steps q0_sheet q0_next q0_wide q0_partOf q0_partTimes q0_foundAt k0_isParted k0_parts k0_found (upd k0_foundAt (x2).toNatClampNeg p1)) := hD
      refine lv_aload_n hx hb dX6_finds_82 rfl (lv_at hl 0 rfl) ?_
      refine lv_dup hx hb dX6_finds_83 rfl ?_
      refine va_get (D := G.1) (ci := 6) (v := .int k0_found) (C := RX6) (T := TX6) (N := 16) hx hb hts nX6_finds_X6 hown hG.1 hP 0 rfl rfl 14 (by decide) (hts _ mX6_finds_1) (fun _ h9 => h9) rfl dX6_finds_84 ?_
      refine lv_iconst (v := (1 : Int32)) hx hb dX6_finds_87 (by decide) ?_
      refine lv_iadd hx hb dX6_finds_88 ?_
      refine va_put (D := G.1) (ci := 6) (v := .int (k0_found + (1 : Int32))) (ty := .int) (C := RX6) (T := TX6) (N := 16) hx hb hts nX6_finds_X6 tyX6 tyX6_ok nmX6 hown hG.1 hP hD hS 0 rfl rfl 14 (by decide) (hts _ mX6_finds_1) (fun _ h9 => h9) rfl (by decide +kernel) rfl rfl (Nat.le_of_ble_eq_true rfl) dX6_finds_89 (fun H locs hP hD hS => ?_)
      have hP : va_P G.1 vwCl (wdX6_finds G q0 q0_one q0_other q0_third q0_waysTo q0_poly q0_then q0_steps q0_sheet q0_next q0_wide q0_partOf q0_partTimes q0_foundAt k0_isParted k0_parts (k0_found + (1 : Int32)) (upd k0_foundAt (x2).toNatClampNeg p1)) H := hP
      have hD : va_D A (wdX6_finds G q0 q0_one q0_other q0_third q0_waysTo q0_poly q0_then q0_steps q0_sheet q0_next q0_wide q0_partOf q0_partTimes q0_foundAt k0_isParted k0_parts (k0_found + (1 : Int32)) (upd k0_foundAt (x2).toNatClampNeg p1)) := hD
      cases hf
      exact rt_v C hP hD hS dX6_finds_92
    · have hf := if_f hc hf
      refine lv_aload_n hx hb dX6_finds_55 rfl (lv_at hl 0 rfl) ?_
      refine va_get (D := G.1) (ci := 6) (v := .ref q0_foundAt) (C := RX6) (T := TX6) (N := 16) hx hb hts nX6_finds_X6 hown hG.1 hP 0 rfl rfl 15 (by decide) (hts _ mX6_finds_0) (fun _ h9 => h9) rfl dX6_finds_56 ?_
      refine lv_iload_n hx hb dX6_finds_59 rfl (lv_at hl 3 rfl) ?_
      refine lv_aload_n hx hb dX6_finds_60 rfl (lv_at hl 0 rfl) ?_
      refine va_get (D := G.1) (ci := 6) (v := .ref q0_foundAt) (C := RX6) (T := TX6) (N := 16) hx hb hts nX6_finds_X6 hown hG.1 hP 0 rfl rfl 15 (by decide) (hts _ mX6_finds_0) (fun _ h9 => h9) rfl dX6_finds_61 ?_
      refine lv_iload_n hx hb dX6_finds_64 rfl (lv_at hl 3 rfl) ?_
      refine lv_iconst (v := (1 : Int32)) hx hb dX6_finds_65 (by decide) ?_
      refine lv_isub hx hb dX6_finds_66 ?_
      obtain ⟨hin, hf⟩ := gI_use hf
      refine va_iald hx hb hG.1 hP 1 0 rfl rfl hin dX6_finds_67 ?_
      obtain ⟨hin, hf⟩ := pI_use hf
      refine va_iast hx hb hG.1 hP hD hS 1 0 rfl rfl hin dX6_finds_68 (fun H locs hP hD hS => ?_)
      have hP : va_P G.1 vwCl (wdX6_finds G q0 q0_one q0_other q0_third q0_waysTo q0_poly q0_then q0_steps q0_sheet q0_next q0_wide q0_partOf q0_partTimes q0_foundAt k0_isParted k0_parts k0_found (upd k0_foundAt (x3).toNatClampNeg (k0_foundAt ((x3 - (1 : Int32))).toNatClampNeg))) H := hP
      have hD : va_D A (wdX6_finds G q0 q0_one q0_other q0_third q0_waysTo q0_poly q0_then q0_steps q0_sheet q0_next q0_wide q0_partOf q0_partTimes q0_foundAt k0_isParted k0_parts k0_found (upd k0_foundAt (x3).toNatClampNeg (k0_foundAt ((x3 - (1 : Int32))).toNatClampNeg))) := hD
      obtain ⟨y4, ey4⟩ : ∃ z : Int32, z = x3 + (-1 : Int32) := ⟨_, rfl⟩
      have hf := nm_use ey4 hf
      refine lv_iinc (v := y4) (lv' := [(3, .int y4), (0, .ref q0), (1, .int p1), (2, .int x2)]) hx hb dX6_finds_69 hl (k := 3) rfl (by rw [ey4]; rfl) (by decide) rfl (fun ls hl => ?_)
      refine lv_goto (tgt := 50) hx hb dX6_finds_72 (by decide) ?_
      exact ih k0_found (upd k0_foundAt (x3).toNatClampNeg (k0_foundAt ((x3 - (1 : Int32))).toNatClampNeg)) x2 y4 _ _ ls hf hP hD hS (lv_sub hl [1, 2, 3, 0] rfl)
set_option maxHeartbeats 4000000 in
set_option maxRecDepth 100000 in
theorem wX6_finds_26 {p : Program} {l : Launch} {e : Env} {s : State} {m : MethodId} {args : Array Value} {below : List Frame} {meth : Method} {c : Code} {G : GX} {A : Nat → Prop} (C : Cx p s m args meth c cX6_finds 4 none wsX6_finds RX6 G A) (q0 : Nat) (q0_one : Nat) (q0_other : Nat) (q0_third : Nat) (q0_waysTo : Nat) (q0_poly : Nat) (q0_then : Nat) (q0_steps : Nat) (q0_sheet : Nat) (q0_next : Nat) (q0_wide : Nat) (q0_partOf : Nat) (q0_partTimes : Nat) (q0_foundAt : Nat) (k0_isParted : Int32) (k0_parts : Int32) (p1 : Int32) (res : Int32 × (Nat → Int32)) : ∀ (k0_found : Int32) (k0_foundAt : Nat → Int32) (x2 : Int32) (H : Heap) (locs : List Loc) (ls : Array Slot), fX6_finds_b26 p1 k0_found k0_foundAt x2 = some res → va_P G.1 vwCl (wdX6_finds G q0 q0_one q0_other q0_third q0_waysTo q0_poly q0_then q0_steps q0_sheet q0_next q0_wide q0_partOf q0_partTimes q0_foundAt k0_isParted k0_parts k0_found k0_foundAt) H → va_D A (wdX6_finds G q0 q0_one q0_other q0_third q0_waysTo q0_poly q0_then q0_steps q0_sheet q0_next q0_wide q0_partOf q0_partTimes q0_foundAt k0_isParted k0_parts k0_found k0_foundAt) → va_S A s.heap H locs → lv_has ls 4 [(0, .ref q0), (1, .int p1), (2, .int x2)] → glX6_finds p l e s m args below meth c G A q0 q0_one q0_other q0_third q0_waysTo q0_poly q0_then q0_steps q0_sheet q0_next q0_wide q0_partOf q0_partTimes q0_foundAt k0_isParted k0_parts res H locs 26 ls [] := by
  obtain ⟨hx, hb, hml, hown, hts, hr, hlocks, hA, hG⟩ := id C
  intro k0_found k0_foundAt x2 H locs ls hf hP hD hS hl
  unfold fX6_finds_b26 at hf
  refine lv_iload_n hx hb dX6_finds_26 rfl (lv_at hl 2 rfl) ?_
  refine lv_aload_n hx hb dX6_finds_27 rfl (lv_at hl 0 rfl) ?_
  refine va_get (D := G.1) (ci := 6) (v := .int k0_found) (C := RX6) (T := TX6) (N := 16) hx hb hts nX6_finds_X6 hown hG.1 hP 0 rfl rfl 14 (by decide) (hts _ mX6_finds_1) (fun _ h9 => h9) rfl dX6_finds_28 ?_
  refine lv_icmp_ge (tgt := 45) hx hb dX6_finds_31 (by decide) (fun hc => ?_) (fun hc => ?_)
  · have hf := if_t hc hf
    refine lv_aload_n hx hb dX6_finds_45 rfl (lv_at hl 0 rfl) ?_
    refine va_get (D := G.1) (ci := 6) (v := .int k0_found) (C := RX6) (T := TX6) (N := 16) hx hb hts nX6_finds_X6 hown hG.1 hP 0 rfl rfl 14 (by decide) (hts _ mX6_finds_1) (fun _ h9 => h9) rfl dX6_finds_46 ?_
    refine lv_istore_n (lv' := [(3, .int k0_found), (0, .ref q0), (1, .int p1), (2, .int x2)]) hx hb dX6_finds_49 rfl hl (by decide) rfl (fun ls hl => ?_)
    exact wX6_finds_50 C q0 q0_one q0_other q0_third q0_waysTo q0_poly q0_then q0_steps q0_sheet q0_next q0_wide q0_partOf q0_partTimes q0_foundAt k0_isParted k0_parts p1 res fu k0_found k0_foundAt x2 k0_found _ _ ls hf hP hD hS (lv_sub hl [1, 2, 3, 0] rfl)
  · have hf := if_f hc hf
    refine lv_aload_n hx hb dX6_finds_34 rfl (lv_at hl 0 rfl) ?_
    refine va_get (D := G.1) (ci := 6) (v := .ref q0_foundAt) (C := RX6) (T := TX6) (N := 16) hx hb hts nX6_finds_X6 hown hG.1 hP 0 rfl rfl 15 (by decide) (hts _ mX6_finds_0) (fun _ h9 => h9) rfl dX6_finds_35 ?_
    refine lv_iload_n hx hb dX6_finds_38 rfl (lv_at hl 2 rfl) ?_
    obtain ⟨hin, hf⟩ := gI_use hf
    refine va_iald hx hb hG.1 hP 1 0 rfl rfl hin dX6_finds_39 ?_
    refine lv_iload_n hx hb dX6_finds_40 rfl (lv_at hl 1 rfl) ?_
    refine lv_icmp_ne (tgt := 45) hx hb dX6_finds_41 (by decide) (fun hc => ?_) (fun hc => ?_)
    · have hf := if_f hc hf
      refine lv_aload_n hx hb dX6_finds_45 rfl (lv_at hl 0 rfl) ?_
      refine va_get (D := G.1) (ci := 6) (v := .int k0_found) (C := RX6) (T := TX6) (N := 16) hx hb hts nX6_finds_X6 hown hG.1 hP 0 rfl rfl 14 (by decide) (hts _ mX6_finds_1) (fun _ h9 => h9) rfl dX6_finds_46 ?_
      refine lv_istore_n (lv' := [(3, .int k0_found), (0, .ref q0), (1, .int p1), (2, .int x2)]) hx hb dX6_finds_49 rfl hl (by decide) rfl (fun ls hl => ?_)
      exact wX6_finds_50 C q0 q0_one q0_other q0_third q0_waysTo q0_poly q0_then q0_steps q0_sheet q0_next q0_wide q0_partOf q0_partTimes q0_foundAt k0_isParted k0_parts p1 res fu k0_found k0_foundAt x2 k0_found _ _ ls hf hP hD hS (lv_sub hl [1, 2, 3, 0] rfl)
    · have hf := if_t hc hf
      cases hf
      exact rt_v C hP hD hS dX6_finds_44
set_option maxHeartbeats 4000000 in
set_option maxRecDepth 100000 in
theorem wX6_finds_2 {p : Program} {l : Launch} {e : Env} {s : State} {m : MethodId} {args : Array Value} {below : List Frame} {meth : Method} {c : Code} {G : GX} {A : Nat → Prop} (C : Cx p s m args meth c cX6_finds 4 none wsX6_finds RX6 G A) (q0 : Nat) (q0_one : Nat) (q0_other : Nat) (q0_third : Nat) (q0_waysTo : Nat) (q0_poly : Nat) (q0_then : Nat) (q0_steps : Nat) (q0_sheet : Nat) (q0_next : Nat) (q0_wide : Nat) (q0_partOf : Nat) (q0_partTimes : Nat) (q0_foundAt : Nat) (k0_isParted : Int32) (k0_parts : Int32) (p1 : Int32) (res : Int32 × (Nat → Int32)) (n : Nat) : ∀ (k0_found : Int32) (k0_foundAt : Nat → Int32) (x2 : Int32) (H : Heap) (locs : List Loc) (ls : Array Slot), fX6_finds_L2 p1 n k0_found k0_foundAt x2 = some res → va_P G.1 vwCl (wdX6_finds G q0 q0_one q0_other q0_third q0_waysTo q0_poly q0_then q0_steps q0_sheet q0_next q0_wide q0_partOf q0_partTimes q0_foundAt k0_isParted k0_parts k0_found k0_foundAt) H → va_D A (wdX6_finds G q0 q0_one q0_other q0_third q0_waysTo q0_poly q0_then q0_steps q0_sheet q0_next q0_wide q0_partOf q0_partTimes q0_foundAt k0_isParted k0_parts k0_found k0_foundAt) → va_S A s.heap H locs → lv_has ls 4 [(0, .ref q0), (1, .int p1), (2, .int x2)] → glX6_finds p l e s m args below meth c G A q0 q0_one q0_other q0_third q0_waysTo q0_poly q0_then q0_steps q0_sheet q0_next q0_wide q0_partOf q0_partTimes q0_foundAt k0_isParted k0_parts res H locs 2 ls [] := by
  obtain ⟨hx, hb, hml, hown, hts, hr, hlocks, hA, hG⟩ := id C
  induction n with
  | zero => intro k0_found k0_foundAt x2 H locs ls hf hP hD hS hl; cases hf
  | succ n ih =>
    intro k0_found k0_foundAt x2 H locs ls hf hP hD hS hl
    simp only [fX6_finds_L2] at hf
    refine lv_iload_n hx hb dX6_finds_2 rfl (lv_at hl 2 rfl) ?_
    refine lv_aload_n hx hb dX6_finds_3 rfl (lv_at hl 0 rfl) ?_
    refine va_get (D := G.1) (ci := 6) (v := .int k0_found) (C := RX6) (T := TX6) (N := 16) hx hb hts nX6_finds_X6 hown hG.1 hP 0 rfl rfl 14 (by decide) (hts _ mX6_finds_1) (fun _ h9 => h9) rfl dX6_finds_4 ?_
    refine lv_icmp_ge (tgt := 26) hx hb dX6_finds_7 (by decide) (fun hc => ?_) (fun hc => ?_)
    · have hf := if_t hc hf
      exact wX6_finds_26 C q0 q0_one q0_other q0_third q0_waysTo q0_poly q0_then q0_steps q0_sheet q0_next q0_wide q0_partOf q0_partTimes q0_foundAt k0_isParted k0_parts p1 res k0_found k0_foundAt x2 _ _ ls hf hP hD hS (lv_sub hl [0, 1, 2] rfl)
    · have hf := if_f hc hf
      refine lv_aload_n hx hb dX6_finds_10 rfl (lv_at hl 0 rfl) ?_
      refine va_get (D := G.1) (ci := 6) (v := .ref q0_foundAt) (C := RX6) (T := TX6) (N := 16) hx hb hts nX6_finds_X6 hown hG.1 hP 0 rfl rfl 15 (by decide) (hts _ mX6_finds_0) (fun _ h9 => h9) rfl dX6_finds_11 ?_
      refine lv_iload_n hx hb dX6_finds_14 rfl (lv_at hl 2 rfl) ?_
      obtain ⟨hin, hf⟩ := gI_use hf
      refine va_iald hx hb hG.1 hP 1 0 rfl rfl hin dX6_finds_15 ?_
      refine lv_iload_n hx hb dX6_finds_16 rfl (lv_at hl 1 rfl) ?_
      refine lv_icmp_ge (tgt := 26) hx hb dX6_finds_17 (by decide) (fun hc => ?_) (fun hc => ?_)
      · have hf := if_t hc hf
        exact wX6_finds_26 C q0 q0_one q0_other q0_third q0_waysTo q0_poly q0_then q0_steps q0_sheet q0_next q0_wide q0_partOf q0_partTimes q0_foundAt k0_isParted k0_parts p1 res k0_found k0_foundAt x2 _ _ ls hf hP hD hS (lv_sub hl [0, 1, 2] rfl)
      · have hf := if_f hc hf
        obtain ⟨y7, ey7⟩ : ∃ z : Int32, z = x2 + (1 : Int32) := ⟨_, rfl⟩
        have hf := nm_use ey7 hf
        refine lv_iinc (v := y7) (lv' := [(2, .int y7), (0, .ref q0), (1, .int p1)]) hx hb dX6_finds_20 hl (k := 2) rfl (by rw [ey7]; rfl) (by decide) rfl (fun ls hl => ?_)
        refine lv_goto (tgt := 2) hx hb dX6_finds_23 (by decide) ?_
        exact ih k0_found k0_foundAt y7 _ _ ls hf hP hD hS (lv_sub hl [1, 2, 0] rfl)
set_option maxHeartbeats 4000000 in
set_option maxRecDepth 100000 in
theorem tX6_finds (l : Launch) (G : GX) (q0 : Nat) (q0_one : Nat) (q0_other : Nat) (q0_third : Nat) (q0_waysTo : Nat) (q0_poly : Nat) (q0_then : Nat) (q0_steps : Nat) (q0_sheet : Nat) (q0_next : Nat) (q0_wide : Nat) (q0_partOf : Nat) (q0_partTimes : Nat) (q0_foundAt : Nat) (k0_isParted : Int32) (k0_parts : Int32) (k0_found : Int32) (k0_foundAt : Nat → Int32) (p1 : Int32) (res : Int32 × (Nat → Int32)) (hf : fX6_finds k0_found k0_foundAt p1 = some res) : Ct l yX6_finds wsX6_finds rmX6_finds G [.ref q0, .int p1] (wdX6_finds G q0 q0_one q0_other q0_third q0_waysTo q0_poly q0_then q0_steps q0_sheet q0_next q0_wide q0_partOf q0_partTimes q0_foundAt k0_isParted k0_parts k0_found k0_foundAt) (wdX6_finds G q0 q0_one q0_other q0_third q0_waysTo q0_poly q0_then q0_steps q0_sheet q0_next q0_wide q0_partOf q0_partTimes q0_foundAt k0_isParted k0_parts res.1 res.2) none := by
  refine Ct.of (cc := cX6_finds) (nL := 4) (ret := none) (by decide) rfl (Nat.le_of_ble_eq_true rfl) rfl ?_
  intro p e s m below meth c A ls C hP hD hl
  obtain ⟨hx, hb, hml, hown, hts, hr, hlocks, hA, hG⟩ := id C
  have hS : va_S A s.heap s.heap [] := va_S.rf
  unfold fX6_finds at hf
  refine lv_iconst (v := (0 : Int32)) hx hb dX6_finds_0 (by decide) ?_
  refine lv_istore_n (lv' := [(2, .int (0 : Int32)), (0, .ref q0), (1, .int p1)]) hx hb dX6_finds_1 rfl hl (by decide) rfl (fun ls hl => ?_)
  exact wX6_finds_2 C q0 q0_one q0_other q0_third q0_waysTo q0_poly q0_then q0_steps q0_sheet q0_next q0_wide q0_partOf q0_partTimes q0_foundAt k0_isParted k0_parts p1 res fu k0_found k0_foundAt (0 : Int32) _ _ ls hf hP hD hS (lv_sub hl [1, 2, 0] rfl)
abbrev wdX6_foundBy (G : GX) (q0 : Nat) (q0_one : Nat) (q0_other : Nat) (q0_third : Nat) (q0_waysTo : Nat) (q0_poly : Nat) (q0_then : Nat) (q0_steps : Nat) (q0_sheet : Nat) (q0_next : Nat) (q0_wide : Nat) (q0_partOf : Nat) (q0_partTimes : Nat) (q0_foundAt : Nat) (k0_isParted : Int32) (k0_parts : Int32) (k0_found : Int32) (k0_foundAt : Nat → Int32) : va_W := [(q0, .inr (6, [.ref q0_one, .ref q0_other, .ref q0_third, .ref q0_waysTo, .ref q0_poly, .ref q0_then, .ref q0_steps, .ref q0_sheet, .ref q0_next, .int k0_isParted, .ref q0_wide, .int k0_parts, .ref q0_partOf, .ref q0_partTimes, .int k0_found, .ref q0_foundAt])), (q0_foundAt, .inl (G.2.1, 64, .inl k0_foundAt))]
abbrev rmX6_foundBy : Room := { frames := 0, cells := 0, slots := 0, locals := 0 }
abbrev glX6_foundBy (p : Program) (l : Launch) (e : Env) (s : State) (m : MethodId) (args : Array Value) (below : List Frame) (meth : Method) (c : Code) (G : GX) (A : Nat → Prop) (q0 : Nat) (q0_one : Nat) (q0_other : Nat) (q0_third : Nat) (q0_waysTo : Nat) (q0_poly : Nat) (q0_then : Nat) (q0_steps : Nat) (q0_sheet : Nat) (q0_next : Nat) (q0_wide : Nat) (q0_partOf : Nat) (q0_partTimes : Nat) (q0_foundAt : Nat) (k0_isParted : Int32) (k0_parts : Int32) (k0_found : Int32) (k0_foundAt : Nat → Int32) (res : Int32) (H : Heap) (locs : List Loc) (pc : Nat) (ls : Array Slot) (st : List Value) : Prop := W p l e rmX6_foundBy s m args below meth c H locs 0 0 (MQ below (ctQ G A (wdX6_foundBy G q0 q0_one q0_other q0_third q0_waysTo q0_poly q0_then q0_steps q0_sheet q0_next q0_wide q0_partOf q0_partTimes q0_foundAt k0_isParted k0_parts k0_found k0_foundAt) (some (.int res))) args s 0 0 A) (F0 m pc ls st)
set_option maxRecDepth 20000 in
theorem mX6_foundBy_0 : Cond.fieldLink RX6 189 "SchubertDeskModel" "found" "I" ∈ wsX6_foundBy := by decide +kernel
set_option maxRecDepth 20000 in
theorem mX6_foundBy_1 : Cond.fieldLink RX6 48 "SchubertDeskModel" "foundAt" "[I" ∈ wsX6_foundBy := by decide +kernel
set_option maxRecDepth 20000 in
theorem nX6_foundBy_X6 : ∀ w ∈ u_ws RX6 TX6 16, w ∈ wsX6_foundBy := by decide +kernel
set_option maxHeartbeats 4000000 in
set_option maxRecDepth 100000 in
theorem tX6_foundBy (l : Launch) (G : GX) (q0 : Nat) (q0_one : Nat) (q0_other : Nat) (q0_third : Nat) (q0_waysTo : Nat) (q0_poly : Nat) (q0_then : Nat) (q0_steps : Nat) (q0_sheet : Nat) (q0_next : Nat) (q0_wide : Nat) (q0_partOf : Nat) (q0_partTimes : Nat) (q0_foundAt : Nat) (k0_isParted : Int32) (k0_parts : Int32) (k0_found : Int32) (k0_foundAt : Nat → Int32) (p1 : Int32) (res : Int32) (hf : fX6_foundBy k0_found k0_foundAt p1 = some res) : Ct l yX6_foundBy wsX6_foundBy rmX6_foundBy G [.ref q0, .int p1] (wdX6_foundBy G q0 q0_one q0_other q0_third q0_waysTo q0_poly q0_then q0_steps q0_sheet q0_next q0_wide q0_partOf q0_partTimes q0_foundAt k0_isParted k0_parts k0_found k0_foundAt) (wdX6_foundBy G q0 q0_one q0_other q0_third q0_waysTo q0_poly q0_then q0_steps q0_sheet q0_next q0_wide q0_partOf q0_partTimes q0_foundAt k0_isParted k0_parts k0_found k0_foundAt) (some (.int res)) := by
  refine Ct.of (cc := cX6_foundBy) (nL := 2) (ret := (some .int)) (by decide) rfl (Nat.le_of_ble_eq_true rfl) rfl ?_
  intro p e s m below meth c A ls C hP hD hl
  obtain ⟨hx, hb, hml, hown, hts, hr, hlocks, hA, hG⟩ := id C
  have hS : va_S A s.heap s.heap [] := va_S.rf
  unfold fX6_foundBy at hf
  refine lv_iload_n hx hb dX6_foundBy_0 rfl (lv_at hl 1 rfl) ?_
  refine lv_iconst (v := (-1 : Int32)) hx hb dX6_foundBy_1 (by decide) ?_
  refine lv_icmp_ne (tgt := 12) hx hb dX6_foundBy_2 (by decide) (fun hc => ?_) (fun hc => ?_)
  · have hf := if_f hc hf
    refine lv_iload_n hx hb dX6_foundBy_12 rfl (lv_at hl 1 rfl) ?_
    refine lv_aload_n hx hb dX6_foundBy_13 rfl (lv_at hl 0 rfl) ?_
    refine va_get (D := G.1) (ci := 6) (v := .int k0_found) (C := RX6) (T := TX6) (N := 16) hx hb hts nX6_foundBy_X6 hown hG.1 hP 0 rfl rfl 14 (by decide) (hts _ mX6_foundBy_0) (fun _ h9 => h9) rfl dX6_foundBy_14 ?_
    refine lv_icmp_ge (tgt := 29) hx hb dX6_foundBy_17 (by decide) (fun hc => ?_) (fun hc => ?_)
    · have hf := if_t hc hf
      refine lv_bipush (v := (-9 : Int32)) hx hb dX6_foundBy_29 (by decide) ?_
      cases hf
      exact rt_i C hP hD hS dX6_foundBy_31
    · have hf := if_f hc hf
      refine lv_aload_n hx hb dX6_foundBy_20 rfl (lv_at hl 0 rfl) ?_
      refine va_get (D := G.1) (ci := 6) (v := .ref q0_foundAt) (C := RX6) (T := TX6) (N := 16) hx hb hts nX6_foundBy_X6 hown hG.1 hP 0 rfl rfl 15 (by decide) (hts _ mX6_foundBy_1) (fun _ h9 => h9) rfl dX6_foundBy_21 ?_
      refine lv_iload_n hx hb dX6_foundBy_24 rfl (lv_at hl 1 rfl) ?_
      obtain ⟨hin, hf⟩ := gI_use hf
      refine va_iald hx hb hG.1 hP 1 0 rfl rfl hin dX6_foundBy_25 ?_
      refine lv_goto (tgt := 31) hx hb dX6_foundBy_26 (by decide) ?_
      cases hf
      exact rt_i C hP hD hS dX6_foundBy_31
  · have hf := if_t hc hf
    refine lv_aload_n hx hb dX6_foundBy_5 rfl (lv_at hl 0 rfl) ?_
    refine va_get (D := G.1) (ci := 6) (v := .int k0_found) (C := RX6) (T := TX6) (N := 16) hx hb hts nX6_foundBy_X6 hown hG.1 hP 0 rfl rfl 14 (by decide) (hts _ mX6_foundBy_0) (fun _ h9 => h9) rfl dX6_foundBy_6 ?_
    refine lv_goto (tgt := 31) hx hb dX6_foundBy_9 (by decide) ?_
    cases hf
    exact rt_i C hP hD hS dX6_foundBy_31
abbrev wdX6_areBoth (G : GX) : va_W := []
abbrev rmX6_areBoth : Room := { frames := 3, cells := 0, slots := 0, locals := 65 }
abbrev glX6_areBoth (p : Program) (l : Launch) (e : Env) (s : State) (m : MethodId) (args : Array Value) (below : List Frame) (meth : Method) (c : Code) (G : GX) (A : Nat → Prop) (res : Int32) (H : Heap) (locs : List Loc) (pc : Nat) (ls : Array Slot) (st : List Value) : Prop := W p l e rmX6_areBoth s m args below meth c H locs 0 0 (MQ below (ctQ G A (wdX6_areBoth G) (some (.int res))) args s 0 0 A) (F0 m pc ls st)
set_option maxHeartbeats 4000000 in
set_option maxRecDepth 100000 in
theorem tX6_areBoth (l : Launch) (G : GX) (p0 : Int32) (p1 : Int32) (p2 : Int32) (res : Int32) (hf : fX6_areBoth p0 p1 p2 = some res) : Ct l yX6_areBoth wsX6_areBoth rmX6_areBoth G [.int p0, .int p1, .int p2] (wdX6_areBoth G) (wdX6_areBoth G) (some (.int res)) := by
  refine Ct.of (cc := cX6_areBoth) (nL := 3) (ret := (some .boolean)) (by decide) rfl (Nat.le_of_ble_eq_true rfl) rfl ?_
  intro p e s m below meth c A ls C hP hD hl
  obtain ⟨hx, hb, hml, hown, hts, hr, hlocks, hA, hG⟩ := id C
  have hS : va_S A s.heap s.heap [] := va_S.rf
  unfold fX6_areBoth at hf
  refine lv_iload_n hx hb dX6_areBoth_0 rfl (lv_at hl 0 rfl) ?_
  refine lv_iload_n hx hb dX6_areBoth_1 rfl (lv_at hl 1 rfl) ?_
  refine lv_iload_n hx hb dX6_areBoth_2 rfl (lv_at hl 2 rfl) ?_
  obtain ⟨r1, hr1, hf⟩ := bd_use hf
  refine cl_S (wn := (wdX6_areBoth G)) (st1 := [.int r1]) C hP hD hS (tX6_isCross l G p0 p1 p2 r1 hr1) (va_cwS 3 hts gX6_areBoth_X6_isCross rfl rfl rfl (by decide +kernel) ⟨Nat.le_of_ble_eq_true rfl, Nat.le_of_ble_eq_true rfl⟩) [] [] [] rfl rfl rfl rfl (by decide) rfl rfl rfl hl.1 rfl rfl (Nat.le_of_ble_eq_true rfl) dX6_areBoth_3 (fun H locs hP hD hS => ?_)
  refine lv_if_eq (tgt := 24) hx hb dX6_areBoth_6 (by decide) (fun hc => ?_) (fun hc => ?_)
  · have hf := if_t hc hf
    refine lv_iconst (v := (0 : Int32)) hx hb dX6_areBoth_24 (by decide) ?_
    cases hf
    exact rt_z C (Or.inl rfl) hP hD hS dX6_areBoth_25
  · have hf := if_f hc hf
    refine lv_iload_n hx hb dX6_areBoth_9 rfl (lv_at hl 0 rfl) ?_
    refine lv_iload_n hx hb dX6_areBoth_10 rfl (lv_at hl 1 rfl) ?_
    refine lv_iload_n hx hb dX6_areBoth_11 rfl (lv_at hl 2 rfl) ?_
    refine lv_iconst (v := (1 : Int32)) hx hb dX6_areBoth_12 (by decide) ?_
    refine lv_iadd hx hb dX6_areBoth_13 ?_
    obtain ⟨r2, hr2, hf⟩ := bd_use hf
    refine cl_S (wn := (wdX6_areBoth G)) (st1 := [.int r2]) C hP hD hS (tX6_isCross l G p0 p1 (p2 + (1 : Int32)) r2 hr2) (va_cwS 3 hts gX6_areBoth_X6_isCross rfl rfl rfl (by decide +kernel) ⟨Nat.le_of_ble_eq_true rfl, Nat.le_of_ble_eq_true rfl⟩) [] [] [] rfl rfl rfl rfl (by decide) rfl rfl rfl hl.1 rfl rfl (Nat.le_of_ble_eq_true rfl) dX6_areBoth_14 (fun H locs hP hD hS => ?_)
    refine lv_if_eq (tgt := 24) hx hb dX6_areBoth_17 (by decide) (fun hc => ?_) (fun hc => ?_)
    · have hf := if_t hc hf
      refine lv_iconst (v := (0 : Int32)) hx hb dX6_areBoth_24 (by decide) ?_
      cases hf
      exact rt_z C (Or.inl rfl) hP hD hS dX6_areBoth_25
    · have hf := if_f hc hf
      refine lv_iconst (v := (1 : Int32)) hx hb dX6_areBoth_20 (by decide) ?_
      refine lv_goto (tgt := 25) hx hb dX6_areBoth_21 (by decide) ?_
      cases hf
      exact rt_z C (Or.inr rfl) hP hD hS dX6_areBoth_25
abbrev wdX6_climbs (G : GX) (q0 : Nat) (q0_one : Nat) (q0_other : Nat) (q0_third : Nat) (q0_waysTo : Nat) (q0_poly : Nat) (q0_then : Nat) (q0_steps : Nat) (q0_sheet : Nat) (q0_next : Nat) (q0_wide : Nat) (q0_partOf : Nat) (q0_partTimes : Nat) (q0_foundAt : Nat) (k0_isParted : Int32) (k0_parts : Int32) (k0_found : Int32) (k0_foundAt : Nat → Int32) : va_W := [(q0, .inr (6, [.ref q0_one, .ref q0_other, .ref q0_third, .ref q0_waysTo, .ref q0_poly, .ref q0_then, .ref q0_steps, .ref q0_sheet, .ref q0_next, .int k0_isParted, .ref q0_wide, .int k0_parts, .ref q0_partOf, .ref q0_partTimes, .int k0_found, .ref q0_foundAt])), (q0_foundAt, .inl (G.2.1, 64, .inl k0_foundAt))]
abbrev rmX6_climbs : Room := { frames := 4, cells := 0, slots := 0, locals := 87 }
abbrev glX6_climbs (p : Program) (l : Launch) (e : Env) (s : State) (m : MethodId) (args : Array Value) (below : List Frame) (meth : Method) (c : Code) (G : GX) (A : Nat → Prop) (q0 : Nat) (q0_one : Nat) (q0_other : Nat) (q0_third : Nat) (q0_waysTo : Nat) (q0_poly : Nat) (q0_then : Nat) (q0_steps : Nat) (q0_sheet : Nat) (q0_next : Nat) (q0_wide : Nat) (q0_partOf : Nat) (q0_partTimes : Nat) (q0_foundAt : Nat) (k0_isParted : Int32) (k0_parts : Int32) (res : Int32 × (Nat → Int32)) (H : Heap) (locs : List Loc) (pc : Nat) (ls : Array Slot) (st : List Value) : Prop := W p l e rmX6_climbs s m args below meth c H locs 0 0 (MQ below (ctQ G A (wdX6_climbs G q0 q0_one q0_other q0_third q0_waysTo q0_poly q0_then q0_steps q0_sheet q0_next q0_wide q0_partOf q0_partTimes q0_foundAt k0_isParted k0_parts res.1 res.2) none) args s 0 0 A) (F0 m pc ls st)
set_option maxHeartbeats 4000000 in
set_option maxRecDepth 100000 in
theorem wX6_climbs_26 {p : Program} {l : Launch} {e : Env} {s : State} {m : MethodId} {args : Array Value} {below : List Frame} {meth : Method} {c : Code} {G : GX} {A : Nat → Prop} (C : Cx p s m args meth c cX6_climbs 5 none wsX6_climbs RX6 G A) (q0 : Nat) (q0_one : Nat) (q0_other : Nat) (q0_third : Nat) (q0_waysTo : Nat) (q0_poly : Nat) (q0_then : Nat) (q0_steps : Nat) (q0_sheet : Nat) (q0_next : Nat) (q0_wide : Nat) (q0_partOf : Nat) (q0_partTimes : Nat) (q0_foundAt : Nat) (k0_isParted : Int32) (k0_parts : Int32) (p1 : Int32) (p2 : Int32) (p3 : Int32) (res : Int32 × (Nat → Int32)) : ∀ (k0_found : Int32) (k0_foundAt : Nat → Int32) (x4 : Int32) (H : Heap) (locs : List Loc) (ls : Array Slot), fX6_climbs_b26 p1 p2 p3 k0_found k0_foundAt x4 = some res → va_P G.1 vwCl (wdX6_climbs G q0 q0_one q0_other q0_third q0_waysTo q0_poly q0_then q0_steps q0_sheet q0_next q0_wide q0_partOf q0_partTimes q0_foundAt k0_isParted k0_parts k0_found k0_foundAt) H → va_D A (wdX6_climbs G q0 q0_one q0_other q0_third q0_waysTo q0_poly q0_then q0_steps q0_sheet q0_next q0_wide q0_partOf q0_partTimes q0_foundAt k0_isParted k0_parts k0_found k0_foundAt) → va_S A s.heap H locs → lv_has ls 5 [(0, .ref q0), (1, .int p1), (2, .int p2), (3, .int p3), (4, .int x4)] → glX6_climbs p l e s m args below meth c G A q0 q0_one q0_other q0_third q0_waysTo q0_poly q0_then q0_steps q0_sheet q0_next q0_wide q0_partOf q0_partTimes q0_foundAt k0_isParted k0_parts res H locs 26 ls [] := by
  obtain ⟨hx, hb, hml, hown, hts, hr, hlocks, hA, hG⟩ := id C
  intro k0_found k0_foundAt x4 H locs ls hf hP hD hS hl
  unfold fX6_climbs_b26 at hf
  refine lv_iload hx hb dX6_climbs_26 (lv_at hl 4 rfl) ?_
  refine lv_if_le (tgt := 79) hx hb dX6_climbs_28 (by decide) (fun hc => ?_) (fun hc => ?_)
  · have hf := if_t hc hf
    cases hf
    exact rt_v C hP hD hS dX6_climbs_79
  · have hf := if_f hc hf
    refine lv_iload_n hx hb dX6_climbs_31 rfl (lv_at hl 1 rfl) ?_
    refine lv_iload hx hb dX6_climbs_32 (lv_at hl 4 rfl) ?_
    refine lv_iload_n hx hb dX6_climbs_34 rfl (lv_at hl 3 rfl) ?_
    obtain ⟨r1, hr1, hf⟩ := bd_use hf
    refine cl_S (wn := (wdX6_climbs G q0 q0_one q0_other q0_third q0_waysTo q0_poly q0_then q0_steps q0_sheet q0_next q0_wide q0_partOf q0_partTimes q0_foundAt k0_isParted k0_parts k0_found k0_foundAt)) (st1 := [.int r1]) C hP hD hS (tX6_isCross l G p1 x4 p3 r1 hr1) (va_cwS 3 hts gX6_climbs_X6_isCross rfl rfl rfl (by decide +kernel) ⟨Nat.le_of_ble_eq_true rfl, Nat.le_of_ble_eq_true rfl⟩) [] [0, 1] [0, 1] rfl rfl rfl rfl (by decide) rfl rfl rfl hl.1 rfl rfl (Nat.le_of_ble_eq_true rfl) dX6_climbs_35 (fun H locs hP hD hS => ?_)
    refine lv_if_ne (tgt := 79) hx hb dX6_climbs_38 (by decide) (fun hc => ?_) (fun hc => ?_)
    · have hf := if_f hc hf
      cases hf
      exact rt_v C hP hD hS dX6_climbs_79
    · have hf := if_t hc hf
      refine lv_iload_n hx hb dX6_climbs_41 rfl (lv_at hl 1 rfl) ?_
      refine lv_iload hx hb dX6_climbs_42 (lv_at hl 4 rfl) ?_
      refine lv_iload_n hx hb dX6_climbs_44 rfl (lv_at hl 3 rfl) ?_
      refine lv_iconst (v := (1 : Int32)) hx hb dX6_climbs_45 (by decide) ?_
      refine lv_iadd hx hb dX6_climbs_46 ?_
      obtain ⟨r2, hr2, hf⟩ := bd_use hf
      refine cl_S (wn := (wdX6_climbs G q0 q0_one q0_other q0_third q0_waysTo q0_poly q0_then q0_steps q0_sheet q0_next q0_wide q0_partOf q0_partTimes q0_foundAt k0_isParted k0_parts k0_found k0_foundAt)) (st1 := [.int r2]) C hP hD hS (tX6_isCross l G p1 x4 (p3 + (1 : Int32)) r2 hr2) (va_cwS 3 hts gX6_climbs_X6_isCross rfl rfl rfl (by decide +kernel) ⟨Nat.le_of_ble_eq_true rfl, Nat.le_of_ble_eq_true rfl⟩) [] [0, 1] [0, 1] rfl rfl rfl rfl (by decide) rfl rfl rfl hl.1 rfl rfl (Nat.le_of_ble_eq_true rfl) dX6_climbs_47 (fun H locs hP hD hS => ?_)
      refine lv_if_ne (tgt := 79) hx hb dX6_climbs_50 (by decide) (fun hc => ?_) (fun hc => ?_)
      · have hf := if_f hc hf
        cases hf
        exact rt_v C hP hD hS dX6_climbs_79
      · have hf := if_t hc hf
        refine lv_aload_n hx hb dX6_climbs_53 rfl (lv_at hl 0 rfl) ?_
        refine lv_iload_n hx hb dX6_climbs_54 rfl (lv_at hl 1 rfl) ?_
        refine lv_iconst (v := (1 : Int32)) hx hb dX6_climbs_55 (by decide) ?_
        refine lv_iload_n hx hb dX6_climbs_56 rfl (lv_at hl 2 rfl) ?_
        refine lv_iload_n hx hb dX6_climbs_57 rfl (lv_at hl 3 rfl) ?_
        obtain ⟨r3, hr3, hf⟩ := bd_use hf
        refine cl_S (wn := (wdX6_climbs G q0 q0_one q0_other q0_third q0_waysTo q0_poly q0_then q0_steps q0_sheet q0_next q0_wide q0_partOf q0_partTimes q0_foundAt k0_isParted k0_parts k0_found k0_foundAt)) (st1 := [.int r3, .int (1 : Int32), .int p1, .ref q0]) C hP hD hS (tX6_bitOf l G p2 p3 r3 hr3) (va_cwS 2 hts gX6_climbs_X6_bitOf rfl rfl rfl (by decide +kernel) ⟨Nat.le_of_ble_eq_true rfl, Nat.le_of_ble_eq_true rfl⟩) [] [0, 1] [0, 1] rfl rfl rfl rfl (by decide) rfl rfl rfl hl.1 rfl rfl (Nat.le_of_ble_eq_true rfl) dX6_climbs_58 (fun H locs hP hD hS => ?_)
        refine lv_ishl hx hb dX6_climbs_61 ?_
        refine lv_iconst (v := (-1 : Int32)) hx hb dX6_climbs_62 (by decide) ?_
        refine lv_ixor hx hb dX6_climbs_63 ?_
        refine lv_iand hx hb dX6_climbs_64 ?_
        refine lv_iconst (v := (1 : Int32)) hx hb dX6_climbs_65 (by decide) ?_
        refine lv_iload hx hb dX6_climbs_66 (lv_at hl 4 rfl) ?_
        refine lv_iload_n hx hb dX6_climbs_68 rfl (lv_at hl 3 rfl) ?_
        refine lv_iconst (v := (1 : Int32)) hx hb dX6_climbs_69 (by decide) ?_
        refine lv_iadd hx hb dX6_climbs_70 ?_
        obtain ⟨r4, hr4, hf⟩ := bd_use hf
        refine cl_S (wn := (wdX6_climbs G q0 q0_one q0_other q0_third q0_waysTo q0_poly q0_then q0_steps q0_sheet q0_next q0_wide q0_partOf q0_partTimes q0_foundAt k0_isParted k0_parts k0_found k0_foundAt)) (st1 := [.int r4, .int (1 : Int32), .int (p1 &&& (((1 : Int32) <<< (r3 &&& 31)) ^^^ (-1 : Int32))), .ref q0]) C hP hD hS (tX6_bitOf l G x4 (p3 + (1 : Int32)) r4 hr4) (va_cwS 2 hts gX6_climbs_X6_bitOf rfl rfl rfl (by decide +kernel) ⟨Nat.le_of_ble_eq_true rfl, Nat.le_of_ble_eq_true rfl⟩) [] [0, 1] [0, 1] rfl rfl rfl rfl (by decide) rfl rfl rfl hl.1 rfl rfl (Nat.le_of_ble_eq_true rfl) dX6_climbs_71 (fun H locs hP hD hS => ?_)
        refine lv_ishl hx hb dX6_climbs_74 ?_
        refine lv_ior hx hb dX6_climbs_75 ?_
        obtain ⟨r5, hr5, hf⟩ := bd_use hf
        refine cl_V (wn := (wdX6_climbs G q0 q0_one q0_other q0_third q0_waysTo q0_poly q0_then q0_steps q0_sheet q0_next q0_wide q0_partOf q0_partTimes q0_foundAt k0_isParted k0_parts r5.1 r5.2)) (st1 := []) C hP hD hS (tX6_finds l G q0 q0_one q0_other q0_third q0_waysTo q0_poly q0_then q0_steps q0_sheet q0_next q0_wide q0_partOf q0_partTimes q0_foundAt k0_isParted k0_parts k0_found k0_foundAt ((p1 &&& (((1 : Int32) <<< (r3 &&& 31)) ^^^ (-1 : Int32))) ||| ((1 : Int32) <<< (r4 &&& 31))) r5 hr5) (cwV 1 hts gX6_climbs_X6_finds rfl rfl rfl (by decide +kernel) ⟨Nat.le_of_ble_eq_true rfl, Nat.le_of_ble_eq_true rfl⟩) [0, 1] [] [0, 1] rfl rfl rfl rfl (by decide) rfl rfl (ci := 6) (q0 := 0) rfl rfl rfl rfl hl.1 rfl rfl (Nat.le_of_ble_eq_true rfl) dX6_climbs_76 (fun H locs hP hD hS => ?_)
        cases hf
        exact rt_v C hP hD hS dX6_climbs_79
set_option maxHeartbeats 4000000 in
set_option maxRecDepth 100000 in
theorem wX6_climbs_5 {p : Program} {l : Launch} {e : Env} {s : State} {m : MethodId} {args : Array Value} {below : List Frame} {meth : Method} {c : Code} {G : GX} {A : Nat → Prop} (C : Cx p s m args meth c cX6_climbs 5 none wsX6_climbs RX6 G A) (q0 : Nat) (q0_one : Nat) (q0_other : Nat) (q0_third : Nat) (q0_waysTo : Nat) (q0_poly : Nat) (q0_then : Nat) (q0_steps : Nat) (q0_sheet : Nat) (q0_next : Nat) (q0_wide : Nat) (q0_partOf : Nat) (q0_partTimes : Nat) (q0_foundAt : Nat) (k0_isParted : Int32) (k0_parts : Int32) (p1 : Int32) (p2 : Int32) (p3 : Int32) (res : Int32 × (Nat → Int32)) (n : Nat) : ∀ (k0_found : Int32) (k0_foundAt : Nat → Int32) (x4 : Int32) (H : Heap) (locs : List Loc) (ls : Array Slot), fX6_climbs_L5 p1 p2 p3 n k0_found k0_foundAt x4 = some res → va_P G.1 vwCl (wdX6_climbs G q0 q0_one q0_other q0_third q0_waysTo q0_poly q0_then q0_steps q0_sheet q0_next q0_wide q0_partOf q0_partTimes q0_foundAt k0_isParted k0_parts k0_found k0_foundAt) H → va_D A (wdX6_climbs G q0 q0_one q0_other q0_third q0_waysTo q0_poly q0_then q0_steps q0_sheet q0_next q0_wide q0_partOf q0_partTimes q0_foundAt k0_isParted k0_parts k0_found k0_foundAt) → va_S A s.heap H locs → lv_has ls 5 [(0, .ref q0), (1, .int p1), (2, .int p2), (3, .int p3), (4, .int x4)] → glX6_climbs p l e s m args below meth c G A q0 q0_one q0_other q0_third q0_waysTo q0_poly q0_then q0_steps q0_sheet q0_next q0_wide q0_partOf q0_partTimes q0_foundAt k0_isParted k0_parts res H locs 5 ls [] := by
  obtain ⟨hx, hb, hml, hown, hts, hr, hlocks, hA, hG⟩ := id C
  induction n with
  | zero => intro k0_found k0_foundAt x4 H locs ls hf hP hD hS hl; cases hf
  | succ n ih =>
    intro k0_found k0_foundAt x4 H locs ls hf hP hD hS hl
    simp only [fX6_climbs_L5] at hf
    refine lv_iload hx hb dX6_climbs_5 (lv_at hl 4 rfl) ?_
    refine lv_if_le (tgt := 26) hx hb dX6_climbs_7 (by decide) (fun hc => ?_) (fun hc => ?_)
    · have hf := if_t hc hf
      exact wX6_climbs_26 C q0 q0_one q0_other q0_third q0_waysTo q0_poly q0_then q0_steps q0_sheet q0_next q0_wide q0_partOf q0_partTimes q0_foundAt k0_isParted k0_parts p1 p2 p3 res k0_found k0_foundAt x4 _ _ ls hf hP hD hS (lv_sub hl [0, 1, 2, 3, 4] rfl)
    · have hf := if_f hc hf
      refine lv_iload_n hx hb dX6_climbs_10 rfl (lv_at hl 1 rfl) ?_
      refine lv_iload hx hb dX6_climbs_11 (lv_at hl 4 rfl) ?_
      refine lv_iload_n hx hb dX6_climbs_13 rfl (lv_at hl 3 rfl) ?_
      obtain ⟨r6, hr6, hf⟩ := bd_use hf
      refine cl_S (wn := (wdX6_climbs G q0 q0_one q0_other q0_third q0_waysTo q0_poly q0_then q0_steps q0_sheet q0_next q0_wide q0_partOf q0_partTimes q0_foundAt k0_isParted k0_parts k0_found k0_foundAt)) (st1 := [.int r6]) C hP hD hS (tX6_areBoth l G p1 x4 p3 r6 hr6) (va_cwS 3 hts gX6_climbs_X6_areBoth rfl rfl rfl (by decide +kernel) ⟨Nat.le_of_ble_eq_true rfl, Nat.le_of_ble_eq_true rfl⟩) [] [0, 1] [0, 1] rfl rfl rfl rfl (by decide) rfl rfl rfl hl.1 rfl rfl (Nat.le_of_ble_eq_true rfl) dX6_climbs_14 (fun H locs hP hD hS => ?_)
      refine lv_if_eq (tgt := 26) hx hb dX6_climbs_17 (by decide) (fun hc => ?_) (fun hc => ?_)
      · have hf := if_t hc hf
        exact wX6_climbs_26 C q0 q0_one q0_other q0_third q0_waysTo q0_poly q0_then q0_steps q0_sheet q0_next q0_wide q0_partOf q0_partTimes q0_foundAt k0_isParted k0_parts p1 p2 p3 res k0_found k0_foundAt x4 _ _ ls hf hP hD hS (lv_sub hl [0, 1, 2, 3, 4] rfl)
      · have hf := if_f hc hf
        obtain ⟨y7, ey7⟩ : ∃ z : Int32, z = x4 + (-1 : Int32) := ⟨_, rfl⟩
        have hf := nm_use ey7 hf
        refine lv_iinc (v := y7) (lv' := [(4, .int y7), (0, .ref q0), (1, .int p1), (2, .int p2), (3, .int p3)]) hx hb dX6_climbs_20 hl (k := 4) rfl (by rw [ey7]; rfl) (by decide) rfl (fun ls hl => ?_)
        refine lv_goto (tgt := 5) hx hb dX6_climbs_23 (by decide) ?_
        exact ih k0_found k0_foundAt y7 _ _ ls hf hP hD hS (lv_sub hl [1, 2, 3, 4, 0] rfl)
set_option maxHeartbeats 4000000 in
set_option maxRecDepth 100000 in
theorem tX6_climbs (l : Launch) (G : GX) (q0 : Nat) (q0_one : Nat) (q0_other : Nat) (q0_third : Nat) (q0_waysTo : Nat) (q0_poly : Nat) (q0_then : Nat) (q0_steps : Nat) (q0_sheet : Nat) (q0_next : Nat) (q0_wide : Nat) (q0_partOf : Nat) (q0_partTimes : Nat) (q0_foundAt : Nat) (k0_isParted : Int32) (k0_parts : Int32) (k0_found : Int32) (k0_foundAt : Nat → Int32) (p1 : Int32) (p2 : Int32) (p3 : Int32) (res : Int32 × (Nat → Int32)) (hf : fX6_climbs k0_found k0_foundAt p1 p2 p3 = some res) : Ct l yX6_climbs wsX6_climbs rmX6_climbs G [.ref q0, .int p1, .int p2, .int p3] (wdX6_climbs G q0 q0_one q0_other q0_third q0_waysTo q0_poly q0_then q0_steps q0_sheet q0_next q0_wide q0_partOf q0_partTimes q0_foundAt k0_isParted k0_parts k0_found k0_foundAt) (wdX6_climbs G q0 q0_one q0_other q0_third q0_waysTo q0_poly q0_then q0_steps q0_sheet q0_next q0_wide q0_partOf q0_partTimes q0_foundAt k0_isParted k0_parts res.1 res.2) none := by
  refine Ct.of (cc := cX6_climbs) (nL := 5) (ret := none) (by decide) rfl (Nat.le_of_ble_eq_true rfl) rfl ?_
  intro p e s m below meth c A ls C hP hD hl
  obtain ⟨hx, hb, hml, hown, hts, hr, hlocks, hA, hG⟩ := id C
  have hS : va_S A s.heap s.heap [] := va_S.rf
  unfold fX6_climbs at hf
  refine lv_iload_n hx hb dX6_climbs_0 rfl (lv_at hl 2 rfl) ?_
  refine lv_iconst (v := (1 : Int32)) hx hb dX6_climbs_1 (by decide) ?_
  refine lv_isub hx hb dX6_climbs_2 ?_
  refine lv_topi (fun y8 ey8 => ?_)
  have hf := nm_use ey8 hf
  refine lv_istore (lv' := [(4, .int y8), (0, .ref q0), (1, .int p1), (2, .int p2), (3, .int p3)]) hx hb dX6_climbs_3 hl (by decide) rfl (fun ls hl => ?_)
  exact wX6_climbs_5 C q0 q0_one q0_other q0_third q0_waysTo q0_poly q0_then q0_steps q0_sheet q0_next q0_wide q0_partOf q0_partTimes q0_foundAt k0_isParted k0_parts p1 p2 p3 res fu k0_found k0_foundAt y8 _ _ ls hf hP hD hS (lv_sub hl [1, 2, 3, 4, 0] rfl)
abbrev wdX6_ladder (G : GX) (q0 : Nat) (q0_one : Nat) (q0_other : Nat) (q0_third : Nat) (q0_waysTo : Nat) (q0_poly : Nat) (q0_then : Nat) (q0_steps : Nat) (q0_sheet : Nat) (q0_next : Nat) (q0_wide : Nat) (q0_partOf : Nat) (q0_partTimes : Nat) (q0_foundAt : Nat) (k0_isParted : Int32) (k0_parts : Int32) (k0_found : Int32) (k0_foundAt : Nat → Int32) : va_W := [(q0, .inr (6, [.ref q0_one, .ref q0_other, .ref q0_third, .ref q0_waysTo, .ref q0_poly, .ref q0_then, .ref q0_steps, .ref q0_sheet, .ref q0_next, .int k0_isParted, .ref q0_wide, .int k0_parts, .ref q0_partOf, .ref q0_partTimes, .int k0_found, .ref q0_foundAt])), (q0_foundAt, .inl (G.2.1, 64, .inl k0_foundAt))]
abbrev rmX6_ladder : Room := { frames := 5, cells := 0, slots := 0, locals := 111 }
abbrev glX6_ladder (p : Program) (l : Launch) (e : Env) (s : State) (m : MethodId) (args : Array Value) (below : List Frame) (meth : Method) (c : Code) (G : GX) (A : Nat → Prop) (q0 : Nat) (q0_one : Nat) (q0_other : Nat) (q0_third : Nat) (q0_waysTo : Nat) (q0_poly : Nat) (q0_then : Nat) (q0_steps : Nat) (q0_sheet : Nat) (q0_next : Nat) (q0_wide : Nat) (q0_partOf : Nat) (q0_partTimes : Nat) (q0_foundAt : Nat) (k0_isParted : Int32) (k0_parts : Int32) (res : Int32 × Int32 × (Nat → Int32)) (H : Heap) (locs : List Loc) (pc : Nat) (ls : Array Slot) (st : List Value) : Prop := W p l e rmX6_ladder s m args below meth c H locs 0 0 (MQ below (ctQ G A (wdX6_ladder G q0 q0_one q0_other q0_third q0_waysTo q0_poly q0_then q0_steps q0_sheet q0_next q0_wide q0_partOf q0_partTimes q0_foundAt k0_isParted k0_parts res.2.1 res.2.2) (some (.int res.1))) args s 0 0 A) (F0 m pc ls st)
set_option maxRecDepth 20000 in
theorem mX6_ladder_0 : Cond.fieldLink RX6 189 "SchubertDeskModel" "found" "I" ∈ wsX6_ladder := by decide +kernel
set_option maxRecDepth 20000 in
theorem nX6_ladder_X6 : ∀ w ∈ u_ws RX6 TX6 16, w ∈ wsX6_ladder := by decide +kernel
set_option maxHeartbeats 4000000 in
set_option maxRecDepth 100000 in
theorem wX6_ladder_34 {p : Program} {l : Launch} {e : Env} {s : State} {m : MethodId} {args : Array Value} {below : List Frame} {meth : Method} {c : Code} {G : GX} {A : Nat → Prop} (C : Cx p s m args meth c cX6_ladder 5 (some .int) wsX6_ladder RX6 G A) (q0 : Nat) (q0_one : Nat) (q0_other : Nat) (q0_third : Nat) (q0_waysTo : Nat) (q0_poly : Nat) (q0_then : Nat) (q0_steps : Nat) (q0_sheet : Nat) (q0_next : Nat) (q0_wide : Nat) (q0_partOf : Nat) (q0_partTimes : Nat) (q0_foundAt : Nat) (k0_isParted : Int32) (k0_parts : Int32) (p1 : Int32) (p2 : Int32) (res : Int32 × Int32 × (Nat → Int32)) (rec26 : Int32 → (Nat → Int32) → Int32 → Option (Int32 × Int32 × (Nat → Int32))) (hr26 : ∀ (k0_found : Int32) (k0_foundAt : Nat → Int32) (x3 : Int32) (H : Heap) (locs : List Loc) (ls : Array Slot), rec26 k0_found k0_foundAt x3 = some res → va_P G.1 vwCl (wdX6_ladder G q0 q0_one q0_other q0_third q0_waysTo q0_poly q0_then q0_steps q0_sheet q0_next q0_wide q0_partOf q0_partTimes q0_foundAt k0_isParted k0_parts k0_found k0_foundAt) H → va_D A (wdX6_ladder G q0 q0_one q0_other q0_third q0_waysTo q0_poly q0_then q0_steps q0_sheet q0_next q0_wide q0_partOf q0_partTimes q0_foundAt k0_isParted k0_parts k0_found k0_foundAt) → va_S A s.heap H locs → lv_has ls 5 [(0, .ref q0), (1, .int p1), (2, .int p2), (3, .int x3)] → glX6_ladder p l e s m args below meth c G A q0 q0_one q0_other q0_third q0_waysTo q0_poly q0_then q0_steps q0_sheet q0_next q0_wide q0_partOf q0_partTimes q0_foundAt k0_isParted k0_parts res H locs 26 ls []) (n : Nat) : ∀ (k0_found : Int32) (k0_foundAt : Nat → Int32) (x3 : Int32) (x4 : Int32) (H : Heap) (locs : List Loc) (ls : Array Slot), fX6_ladder_L34 p1 p2 rec26 n k0_found k0_foundAt x3 x4 = some res → va_P G.1 vwCl (wdX6_ladder G q0 q0_one q0_other q0_third q0_waysTo q0_poly q0_then q0_steps q0_sheet q0_next q0_wide q0_partOf q0_partTimes q0_foundAt k0_isParted k0_parts k0_found k0_foundAt) H → va_D A (wdX6_ladder G q0 q0_one q0_other q0_third q0_waysTo q0_poly q0_then q0_steps q0_sheet q0_next q0_wide q0_partOf q0_partTimes q0_foundAt k0_isParted k0_parts k0_found k0_foundAt) → va_S A s.heap H locs → lv_has ls 5 [(0, .ref q0), (1, .int p1), (2, .int p2), (3, .int x3), (4, .int x4)] → glX6_ladder p l e s m args below meth c G A q0 q0_one q0_other q0_third q0_waysTo q0_poly q0_then q0_steps q0_sheet q0_next q0_wide q0_partOf q0_partTimes q0_foundAt k0_isParted k0_parts res H locs 34 ls [] := by
  obtain ⟨hx, hb, hml, hown, hts, hr, hlocks, hA, hG⟩ := id C
  induction n with
  | zero => intro k0_found k0_foundAt x3 x4 H locs ls hf hP hD hS hl; cases hf
  | succ n ih =>
    intro k0_found k0_foundAt x3 x4 H locs ls hf hP hD hS hl
    simp only [fX6_ladder_L34] at hf
    refine lv_iload hx hb dX6_ladder_34 (lv_at hl 4 rfl) ?_
    refine lv_iconst (v := (5 : Int32)) hx hb dX6_ladder_36 (by decide) ?_
    refine lv_iload_n hx hb dX6_ladder_37 rfl (lv_at hl 3 rfl) ?_
    refine lv_isub hx hb dX6_ladder_38 ?_
    refine lv_icmp_gt (tgt := 78) hx hb dX6_ladder_39 (by decide) (fun hc => ?_) (fun hc => ?_)
    · have hf := if_t hc hf
      obtain ⟨y1, ey1⟩ : ∃ z : Int32, z = x3 + (1 : Int32) := ⟨_, rfl⟩
      have hf := nm_use ey1 hf
      refine lv_iinc (v := y1) (lv' := [(3, .int y1), (0, .ref q0), (1, .int p1), (2, .int p2), (4, .int x4)]) hx hb dX6_ladder_78 hl (k := 3) rfl (by rw [ey1]; rfl) (by decide) rfl (fun ls hl => ?_)
      refine lv_goto (tgt := 26) hx hb dX6_ladder_81 (by decide) ?_
      exact hr26 k0_found k0_foundAt y1 _ _ ls hf hP hD hS (lv_sub hl [1, 2, 3, 0] rfl)
    · have hf := if_f hc hf
      refine lv_iload_n hx hb dX6_ladder_42 rfl (lv_at hl 1 rfl) ?_
      refine lv_iload_n hx hb dX6_ladder_43 rfl (lv_at hl 3 rfl) ?_
      refine lv_iload hx hb dX6_ladder_44 (lv_at hl 4 rfl) ?_
      obtain ⟨r2, hr2, hf⟩ := bd_use hf
      refine cl_S (wn := (wdX6_ladder G q0 q0_one q0_other q0_third q0_waysTo q0_poly q0_then q0_steps q0_sheet q0_next q0_wide q0_partOf q0_partTimes q0_foundAt k0_isParted k0_parts k0_found k0_foundAt)) (st1 := [.int r2]) C hP hD hS (tX6_isCross l G p1 x3 x4 r2 hr2) (va_cwS 3 hts gX6_ladder_X6_isCross rfl rfl rfl (by decide +kernel) ⟨Nat.le_of_ble_eq_true rfl, Nat.le_of_ble_eq_true rfl⟩) [] [0, 1] [0, 1] rfl rfl rfl rfl (by decide) rfl rfl rfl hl.1 rfl rfl (Nat.le_of_ble_eq_true rfl) dX6_ladder_46 (fun H locs hP hD hS => ?_)
      refine lv_if_eq (tgt := 72) hx hb dX6_ladder_49 (by decide) (fun hc => ?_) (fun hc => ?_)
      · have hf := if_t hc hf
        obtain ⟨y3, ey3⟩ : ∃ z : Int32, z = x4 + (1 : Int32) := ⟨_, rfl⟩
        have hf := nm_use ey3 hf
        refine lv_iinc (v := y3) (lv' := [(4, .int y3), (0, .ref q0), (1, .int p1), (2, .int p2), (3, .int x3)]) hx hb dX6_ladder_72 hl (k := 4) rfl (by rw [ey3]; rfl) (by decide) rfl (fun ls hl => ?_)
        refine lv_goto (tgt := 34) hx hb dX6_ladder_75 (by decide) ?_
        exact ih k0_found k0_foundAt x3 y3 _ _ ls hf hP hD hS (lv_sub hl [1, 2, 3, 4, 0] rfl)
      · have hf := if_f hc hf
        refine lv_iload_n hx hb dX6_ladder_52 rfl (lv_at hl 1 rfl) ?_
        refine lv_iload_n hx hb dX6_ladder_53 rfl (lv_at hl 3 rfl) ?_
        refine lv_iload hx hb dX6_ladder_54 (lv_at hl 4 rfl) ?_
        refine lv_iconst (v := (1 : Int32)) hx hb dX6_ladder_56 (by decide) ?_
        refine lv_iadd hx hb dX6_ladder_57 ?_
        obtain ⟨r4, hr4, hf⟩ := bd_use hf
        refine cl_S (wn := (wdX6_ladder G q0 q0_one q0_other q0_third q0_waysTo q0_poly q0_then q0_steps q0_sheet q0_next q0_wide q0_partOf q0_partTimes q0_foundAt k0_isParted k0_parts k0_found k0_foundAt)) (st1 := [.int r4]) C hP hD hS (tX6_isCross l G p1 x3 (x4 + (1 : Int32)) r4 hr4) (va_cwS 3 hts gX6_ladder_X6_isCross rfl rfl rfl (by decide +kernel) ⟨Nat.le_of_ble_eq_true rfl, Nat.le_of_ble_eq_true rfl⟩) [] [0, 1] [0, 1] rfl rfl rfl rfl (by decide) rfl rfl rfl hl.1 rfl rfl (Nat.le_of_ble_eq_true rfl) dX6_ladder_58 (fun H locs hP hD hS => ?_)
        refine lv_if_ne (tgt := 72) hx hb dX6_ladder_61 (by decide) (fun hc => ?_) (fun hc => ?_)
        · have hf := if_f hc hf
          obtain ⟨y5, ey5⟩ : ∃ z : Int32, z = x4 + (1 : Int32) := ⟨_, rfl⟩
          have hf := nm_use ey5 hf
          refine lv_iinc (v := y5) (lv' := [(4, .int y5), (0, .ref q0), (1, .int p1), (2, .int p2), (3, .int x3)]) hx hb dX6_ladder_72 hl (k := 4) rfl (by rw [ey5]; rfl) (by decide) rfl (fun ls hl => ?_)
          refine lv_goto (tgt := 34) hx hb dX6_ladder_75 (by decide) ?_
          exact ih k0_found k0_foundAt x3 y5 _ _ ls hf hP hD hS (lv_sub hl [1, 2, 3, 4, 0] rfl)
        · have hf := if_t hc hf
          refine lv_aload_n hx hb dX6_ladder_64 rfl (lv_at hl 0 rfl) ?_
          refine lv_iload_n hx hb dX6_ladder_65 rfl (lv_at hl 1 rfl) ?_
          refine lv_iload_n hx hb dX6_ladder_66 rfl (lv_at hl 3 rfl) ?_
          refine lv_iload hx hb dX6_ladder_67 (lv_at hl 4 rfl) ?_
          obtain ⟨r6, hr6, hf⟩ := bd_use hf
          refine cl_V (wn := (wdX6_ladder G q0 q0_one q0_other q0_third q0_waysTo q0_poly q0_then q0_steps q0_sheet q0_next q0_wide q0_partOf q0_partTimes q0_foundAt k0_isParted k0_parts r6.1 r6.2)) (st1 := []) C hP hD hS (tX6_climbs l G q0 q0_one q0_other q0_third q0_waysTo q0_poly q0_then q0_steps q0_sheet q0_next q0_wide q0_partOf q0_partTimes q0_foundAt k0_isParted k0_parts k0_found k0_foundAt p1 x3 x4 r6 hr6) (cwV 3 hts gX6_ladder_X6_climbs rfl rfl rfl (by decide +kernel) ⟨Nat.le_of_ble_eq_true rfl, Nat.le_of_ble_eq_true rfl⟩) [0, 1] [] [0, 1] rfl rfl rfl rfl (by decide) rfl rfl (ci := 6) (q0 := 0) rfl rfl rfl rfl hl.1 rfl rfl (Nat.le_of_ble_eq_true rfl) dX6_ladder_69 (fun H locs hP hD hS => ?_)
          obtain ⟨y7, ey7⟩ : ∃ z : Int32, z = x4 + (1 : Int32) := ⟨_, rfl⟩
          have hf := nm_use ey7 hf
          refine lv_iinc (v := y7) (lv' := [(4, .int y7), (0, .ref q0), (1, .int p1), (2, .int p2), (3, .int x3)]) hx hb dX6_ladder_72 hl (k := 4) rfl (by rw [ey7]; rfl) (by decide) rfl (fun ls hl => ?_)
          refine lv_goto (tgt := 34) hx hb dX6_ladder_75 (by decide) ?_
          exact ih r6.1 r6.2 x3 y7 _ _ ls hf hP hD hS (lv_sub hl [1, 2, 3, 4, 0] rfl)
set_option maxHeartbeats 4000000 in
set_option maxRecDepth 100000 in
theorem wX6_ladder_26 {p : Program} {l : Launch} {e : Env} {s : State} {m : MethodId} {args : Array Value} {below : List Frame} {meth : Method} {c : Code} {G : GX} {A : Nat → Prop} (C : Cx p s m args meth c cX6_ladder 5 (some .int) wsX6_ladder RX6 G A) (q0 : Nat) (q0_one : Nat) (q0_other : Nat) (q0_third : Nat) (q0_waysTo : Nat) (q0_poly : Nat) (q0_then : Nat) (q0_steps : Nat) (q0_sheet : Nat) (q0_next : Nat) (q0_wide : Nat) (q0_partOf : Nat) (q0_partTimes : Nat) (q0_foundAt : Nat) (k0_isParted : Int32) (k0_parts : Int32) (p1 : Int32) (p2 : Int32) (res : Int32 × Int32 × (Nat → Int32)) (n : Nat) : ∀ (k0_found : Int32) (k0_foundAt : Nat → Int32) (x3 : Int32) (H : Heap) (locs : List Loc) (ls : Array Slot), fX6_ladder_L26 p1 p2 n k0_found k0_foundAt x3 = some res → va_P G.1 vwCl (wdX6_ladder G q0 q0_one q0_other q0_third q0_waysTo q0_poly q0_then q0_steps q0_sheet q0_next q0_wide q0_partOf q0_partTimes q0_foundAt k0_isParted k0_parts k0_found k0_foundAt) H → va_D A (wdX6_ladder G q0 q0_one q0_other q0_third q0_waysTo q0_poly q0_then q0_steps q0_sheet q0_next q0_wide q0_partOf q0_partTimes q0_foundAt k0_isParted k0_parts k0_found k0_foundAt) → va_S A s.heap H locs → lv_has ls 5 [(0, .ref q0), (1, .int p1), (2, .int p2), (3, .int x3)] → glX6_ladder p l e s m args below meth c G A q0 q0_one q0_other q0_third q0_waysTo q0_poly q0_then q0_steps q0_sheet q0_next q0_wide q0_partOf q0_partTimes q0_foundAt k0_isParted k0_parts res H locs 26 ls [] := by
  obtain ⟨hx, hb, hml, hown, hts, hr, hlocks, hA, hG⟩ := id C
  induction n with
  | zero => intro k0_found k0_foundAt x3 H locs ls hf hP hD hS hl; cases hf
  | succ n ih =>
    intro k0_found k0_foundAt x3 H locs ls hf hP hD hS hl
    simp only [fX6_ladder_L26] at hf
    refine lv_iload_n hx hb dX6_ladder_26 rfl (lv_at hl 3 rfl) ?_
    refine lv_iconst (v := (4 : Int32)) hx hb dX6_ladder_27 (by decide) ?_
    refine lv_icmp_gt (tgt := 84) hx hb dX6_ladder_28 (by decide) (fun hc => ?_) (fun hc => ?_)
    · have hf := if_t hc hf
      refine lv_aload_n hx hb dX6_ladder_84 rfl (lv_at hl 0 rfl) ?_
      refine lv_iload_n hx hb dX6_ladder_85 rfl (lv_at hl 2 rfl) ?_
      obtain ⟨r8, hr8, hf⟩ := bd_use hf
      refine cl_V (wn := (wdX6_ladder G q0 q0_one q0_other q0_third q0_waysTo q0_poly q0_then q0_steps q0_sheet q0_next q0_wide q0_partOf q0_partTimes q0_foundAt k0_isParted k0_parts k0_found k0_foundAt)) (st1 := [.int r8]) C hP hD hS (tX6_foundBy l G q0 q0_one q0_other q0_third q0_waysTo q0_poly q0_then q0_steps q0_sheet q0_next q0_wide q0_partOf q0_partTimes q0_foundAt k0_isParted k0_parts k0_found k0_foundAt p2 r8 hr8) (cwV 1 hts gX6_ladder_X6_foundBy rfl rfl rfl (by decide +kernel) ⟨Nat.le_of_ble_eq_true rfl, Nat.le_of_ble_eq_true rfl⟩) [0, 1] [] [0, 1] rfl rfl rfl rfl (by decide) rfl rfl (ci := 6) (q0 := 0) rfl rfl rfl rfl hl.1 rfl rfl (Nat.le_of_ble_eq_true rfl) dX6_ladder_86 (fun H locs hP hD hS => ?_)
      cases hf
      exact rt_i C hP hD hS dX6_ladder_89
    · have hf := if_f hc hf
      refine lv_iconst (v := (1 : Int32)) hx hb dX6_ladder_31 (by decide) ?_
      refine lv_istore (lv' := [(4, .int (1 : Int32)), (0, .ref q0), (1, .int p1), (2, .int p2), (3, .int x3)]) hx hb dX6_ladder_32 hl (by decide) rfl (fun ls hl => ?_)
      exact wX6_ladder_34 C q0 q0_one q0_other q0_third q0_waysTo q0_poly q0_then q0_steps q0_sheet q0_next q0_wide q0_partOf q0_partTimes q0_foundAt k0_isParted k0_parts p1 p2 res (fX6_ladder_L26 p1 p2 n) ih fu k0_found k0_foundAt x3 (1 : Int32) _ _ ls hf hP hD hS (lv_sub hl [1, 2, 3, 4, 0] rfl)
set_option maxHeartbeats 4000000 in
set_option maxRecDepth 100000 in
theorem tX6_ladder (l : Launch) (G : GX) (q0 : Nat) (q0_one : Nat) (q0_other : Nat) (q0_third : Nat) (q0_waysTo : Nat) (q0_poly : Nat) (q0_then : Nat) (q0_steps : Nat) (q0_sheet : Nat) (q0_next : Nat) (q0_wide : Nat) (q0_partOf : Nat) (q0_partTimes : Nat) (q0_foundAt : Nat) (k0_isParted : Int32) (k0_parts : Int32) (k0_found : Int32) (k0_foundAt : Nat → Int32) (p1 : Int32) (p2 : Int32) (res : Int32 × Int32 × (Nat → Int32)) (hf : fX6_ladder k0_found k0_foundAt p1 p2 = some res) : Ct l yX6_ladder wsX6_ladder rmX6_ladder G [.ref q0, .int p1, .int p2] (wdX6_ladder G q0 q0_one q0_other q0_third q0_waysTo q0_poly q0_then q0_steps q0_sheet q0_next q0_wide q0_partOf q0_partTimes q0_foundAt k0_isParted k0_parts k0_found k0_foundAt) (wdX6_ladder G q0 q0_one q0_other q0_third q0_waysTo q0_poly q0_then q0_steps q0_sheet q0_next q0_wide q0_partOf q0_partTimes q0_foundAt k0_isParted k0_parts res.2.1 res.2.2) (some (.int res.1)) := by
  refine Ct.of (cc := cX6_ladder) (nL := 5) (ret := (some .int)) (by decide) rfl (Nat.le_of_ble_eq_true rfl) rfl ?_
  intro p e s m below meth c A ls C hP hD hl
  obtain ⟨hx, hb, hml, hown, hts, hr, hlocks, hA, hG⟩ := id C
  have hS : va_S A s.heap s.heap [] := va_S.rf
  unfold fX6_ladder at hf
  refine lv_iload_n hx hb dX6_ladder_0 rfl (lv_at hl 1 rfl) ?_
  refine lv_iconst (v := (0 : Int32)) hx hb dX6_ladder_1 (by decide) ?_
  refine lv_sipush (v := (1023 : Int32)) hx hb dX6_ladder_2 (by decide) ?_
  obtain ⟨r9, hr9, hf⟩ := bd_use hf
  refine cl_S (wn := (wdX6_ladder G q0 q0_one q0_other q0_third q0_waysTo q0_poly q0_then q0_steps q0_sheet q0_next q0_wide q0_partOf q0_partTimes q0_foundAt k0_isParted k0_parts k0_found k0_foundAt)) (st1 := [.int r9]) C hP hD hS (tX6_within l G p1 (0 : Int32) (1023 : Int32) r9 hr9) (va_cwS 3 hts gX6_ladder_X6_within rfl rfl rfl (by decide +kernel) ⟨Nat.le_of_ble_eq_true rfl, Nat.le_of_ble_eq_true rfl⟩) [] [0, 1] [0, 1] rfl rfl rfl rfl (by decide) rfl rfl rfl hl.1 rfl rfl (Nat.le_of_ble_eq_true rfl) dX6_ladder_5 (fun H locs hP hD hS => ?_)
  refine lv_if_eq (tgt := 16) hx hb dX6_ladder_8 (by decide) (fun hc => ?_) (fun hc => ?_)
  · have hf := if_t hc hf
    refine lv_bipush (v := (-2 : Int32)) hx hb dX6_ladder_16 (by decide) ?_
    cases hf
    exact rt_i C hP hD hS dX6_ladder_18
  · have hf := if_f hc hf
    refine lv_iload_n hx hb dX6_ladder_11 rfl (lv_at hl 2 rfl) ?_
    refine lv_iconst (v := (-1 : Int32)) hx hb dX6_ladder_12 (by decide) ?_
    refine lv_icmp_ge (tgt := 19) hx hb dX6_ladder_13 (by decide) (fun hc => ?_) (fun hc => ?_)
    · have hf := if_t hc hf
      refine lv_aload_n hx hb dX6_ladder_19 rfl (lv_at hl 0 rfl) ?_
      refine lv_iconst (v := (0 : Int32)) hx hb dX6_ladder_20 (by decide) ?_
      refine va_put (D := G.1) (ci := 6) (v := .int (0 : Int32)) (ty := .int) (C := RX6) (T := TX6) (N := 16) hx hb hts nX6_ladder_X6 tyX6 tyX6_ok nmX6 hown hG.1 hP hD hS 0 rfl rfl 14 (by decide) (hts _ mX6_ladder_0) (fun _ h9 => h9) rfl (by decide +kernel) rfl rfl (Nat.le_of_ble_eq_true rfl) dX6_ladder_21 (fun H locs hP hD hS => ?_)
      have hP : va_P G.1 vwCl (wdX6_ladder G q0 q0_one q0_other q0_third q0_waysTo q0_poly q0_then q0_steps q0_sheet q0_next q0_wide q0_partOf q0_partTimes q0_foundAt k0_isParted k0_parts (0 : Int32) k0_foundAt) H := hP
      have hD : va_D A (wdX6_ladder G q0 q0_one q0_other q0_third q0_waysTo q0_poly q0_then q0_steps q0_sheet q0_next q0_wide q0_partOf q0_partTimes q0_foundAt k0_isParted k0_parts (0 : Int32) k0_foundAt) := hD
      refine lv_iconst (v := (2 : Int32)) hx hb dX6_ladder_24 (by decide) ?_
      refine lv_istore_n (lv' := [(3, .int (2 : Int32)), (0, .ref q0), (1, .int p1), (2, .int p2)]) hx hb dX6_ladder_25 rfl hl (by decide) rfl (fun ls hl => ?_)
      exact wX6_ladder_26 C q0 q0_one q0_other q0_third q0_waysTo q0_poly q0_then q0_steps q0_sheet q0_next q0_wide q0_partOf q0_partTimes q0_foundAt k0_isParted k0_parts p1 p2 res fu (0 : Int32) k0_foundAt (2 : Int32) _ _ ls hf hP hD hS (lv_sub hl [1, 2, 3, 0] rfl)
    · have hf := if_f hc hf
      refine lv_bipush (v := (-2 : Int32)) hx hb dX6_ladder_16 (by decide) ?_
      cases hf
      exact rt_i C hP hD hS dX6_ladder_18
abbrev wdX6_rise (G : GX) (q0 : Nat) (q0_one : Nat) (q0_other : Nat) (q0_third : Nat) (q0_waysTo : Nat) (q0_poly : Nat) (q0_then : Nat) (q0_steps : Nat) (q0_sheet : Nat) (q0_next : Nat) (q0_wide : Nat) (q0_partOf : Nat) (q0_partTimes : Nat) (q0_foundAt : Nat) (k0_one : Nat → Int32) (k0_isParted : Int32) (k0_parts : Int32) (k0_found : Int32) (k0_foundAt : Nat → Int32) : va_W := [(q0, .inr (6, [.ref q0_one, .ref q0_other, .ref q0_third, .ref q0_waysTo, .ref q0_poly, .ref q0_then, .ref q0_steps, .ref q0_sheet, .ref q0_next, .int k0_isParted, .ref q0_wide, .int k0_parts, .ref q0_partOf, .ref q0_partTimes, .int k0_found, .ref q0_foundAt])), (q0_one, .inl (G.2.1, 10, .inl k0_one)), (q0_foundAt, .inl (G.2.1, 64, .inl k0_foundAt))]
abbrev rmX6_rise : Room := { frames := 2, cells := 0, slots := 0, locals := 48 }
abbrev glX6_rise (p : Program) (l : Launch) (e : Env) (s : State) (m : MethodId) (args : Array Value) (below : List Frame) (meth : Method) (c : Code) (G : GX) (A : Nat → Prop) (q0 : Nat) (q0_one : Nat) (q0_other : Nat) (q0_third : Nat) (q0_waysTo : Nat) (q0_poly : Nat) (q0_then : Nat) (q0_steps : Nat) (q0_sheet : Nat) (q0_next : Nat) (q0_wide : Nat) (q0_partOf : Nat) (q0_partTimes : Nat) (q0_foundAt : Nat) (k0_isParted : Int32) (k0_parts : Int32) (res : Int32 × (Nat → Int32) × Int32 × (Nat → Int32)) (H : Heap) (locs : List Loc) (pc : Nat) (ls : Array Slot) (st : List Value) : Prop := W p l e rmX6_rise s m args below meth c H locs 0 0 (MQ below (ctQ G A (wdX6_rise G q0 q0_one q0_other q0_third q0_waysTo q0_poly q0_then q0_steps q0_sheet q0_next q0_wide q0_partOf q0_partTimes q0_foundAt res.2.1 k0_isParted k0_parts res.2.2.1 res.2.2.2) (some (.int res.1))) args s 0 0 A) (F0 m pc ls st)
set_option maxRecDepth 20000 in
theorem mX6_rise_0 : Cond.fieldLink RX6 7 "SchubertDeskModel" "one" "[I" ∈ wsX6_rise := by decide +kernel
set_option maxRecDepth 20000 in
theorem mX6_rise_1 : Cond.constant RX6 205 (99999999) ∈ wsX6_rise := by decide +kernel
set_option maxRecDepth 20000 in
theorem mX6_rise_2 : Cond.fieldLink RX6 189 "SchubertDeskModel" "found" "I" ∈ wsX6_rise := by decide +kernel
set_option maxRecDepth 20000 in
theorem nX6_rise_X6 : ∀ w ∈ u_ws RX6 TX6 16, w ∈ wsX6_rise := by decide +kernel
set_option maxHeartbeats 4000000 in
set_option maxRecDepth 100000 in
theorem wX6_rise_106 {p : Program} {l : Launch} {e : Env} {s : State} {m : MethodId} {args : Array Value} {below : List Frame} {meth : Method} {c : Code} {G : GX} {A : Nat → Prop} (C : Cx p s m args meth c cX6_rise 7 (some .int) wsX6_rise RX6 G A) (q0 : Nat) (q0_one : Nat) (q0_other : Nat) (q0_third : Nat) (q0_waysTo : Nat) (q0_poly : Nat) (q0_then : Nat) (q0_steps : Nat) (q0_sheet : Nat) (q0_next : Nat) (q0_wide : Nat) (q0_partOf : Nat) (q0_partTimes : Nat) (q0_foundAt : Nat) (k0_isParted : Int32) (k0_parts : Int32) (p1 : Int32) (p2 : Int32) (p3 : Int32) (res : Int32 × (Nat → Int32) × Int32 × (Nat → Int32)) (rec52 : (Nat → Int32) → Int32 → (Nat → Int32) → Int32 → Int32 → Option (Int32 × (Nat → Int32) × Int32 × (Nat → Int32))) (hr52 : ∀ (k0_one : Nat → Int32) (k0_found : Int32) (k0_foundAt : Nat → Int32) (x4 : Int32) (x5 : Int32) (H : Heap) (locs : List Loc) (ls : Array Slot), rec52 k0_one k0_found k0_foundAt x4 x5 = some res → va_P G.1 vwCl (wdX6_rise G q0 q0_one q0_other q0_third q0_waysTo q0_poly q0_then q0_steps q0_sheet q0_next q0_wide q0_partOf q0_partTimes q0_foundAt k0_one k0_isParted k0_parts k0_found k0_foundAt) H → va_D A (wdX6_rise G q0 q0_one q0_other q0_third q0_waysTo q0_poly q0_then q0_steps q0_sheet q0_next q0_wide q0_partOf q0_partTimes q0_foundAt k0_one k0_isParted k0_parts k0_found k0_foundAt) → va_S A s.heap H locs → lv_has ls 7 [(0, .ref q0), (2, .int p2), (3, .int p3), (4, .int x4), (5, .int x5)] → glX6_rise p l e s m args below meth c G A q0 q0_one q0_other q0_third q0_waysTo q0_poly q0_then q0_steps q0_sheet q0_next q0_wide q0_partOf q0_partTimes q0_foundAt k0_isParted k0_parts res H locs 52 ls []) (rec63 : (Nat → Int32) → Int32 → (Nat → Int32) → Int32 → Int32 → Int32 → Option (Int32 × (Nat → Int32) × Int32 × (Nat → Int32))) (hr63 : ∀ (k0_one : Nat → Int32) (k0_found : Int32) (k0_foundAt : Nat → Int32) (x4 : Int32) (x5 : Int32) (x6 : Int32) (H : Heap) (locs : List Loc) (ls : Array Slot), rec63 k0_one k0_found k0_foundAt x4 x5 x6 = some res → va_P G.1 vwCl (wdX6_rise G q0 q0_one q0_other q0_third q0_waysTo q0_poly q0_then q0_steps q0_sheet q0_next q0_wide q0_partOf q0_partTimes q0_foundAt k0_one k0_isParted k0_parts k0_found k0_foundAt) H → va_D A (wdX6_rise G q0 q0_one q0_other q0_third q0_waysTo q0_poly q0_then q0_steps q0_sheet q0_next q0_wide q0_partOf q0_partTimes q0_foundAt k0_one k0_isParted k0_parts k0_found k0_foundAt) → va_S A s.heap H locs → lv_has ls 7 [(0, .ref q0), (2, .int p2), (3, .int p3), (4, .int x4), (5, .int x5), (6, .int x6)] → glX6_rise p l e s m args below meth c G A q0 q0_one q0_other q0_third q0_waysTo q0_poly q0_then q0_steps q0_sheet q0_next q0_wide q0_partOf q0_partTimes q0_foundAt k0_isParted k0_parts res H locs 63 ls []) : ∀ (k0_one : Nat → Int32) (k0_found : Int32) (k0_foundAt : Nat → Int32) (x4 : Int32) (x5 : Int32) (x6 : Int32) (H : Heap) (locs : List Loc) (ls : Array Slot), fX6_rise_b106 p1 p2 p3 rec52 rec63 k0_one k0_found k0_foundAt x4 x5 x6 = some res → va_P G.1 vwCl (wdX6_rise G q0 q0_one q0_other q0_third q0_waysTo q0_poly q0_then q0_steps q0_sheet q0_next q0_wide q0_partOf q0_partTimes q0_foundAt k0_one k0_isParted k0_parts k0_found k0_foundAt) H → va_D A (wdX6_rise G q0 q0_one q0_other q0_third q0_waysTo q0_poly q0_then q0_steps q0_sheet q0_next q0_wide q0_partOf q0_partTimes q0_foundAt k0_one k0_isParted k0_parts k0_found k0_foundAt) → va_S A s.heap H locs → lv_has ls 7 [(0, .ref q0), (2, .int p2), (3, .int p3), (4, .int x4), (5, .int x5), (6, .int x6)] → glX6_rise p l e s m args below meth c G A q0 q0_one q0_other q0_third q0_waysTo q0_poly q0_then q0_steps q0_sheet q0_next q0_wide q0_partOf q0_partTimes q0_foundAt k0_isParted k0_parts res H locs 106 ls [] := by
  obtain ⟨hx, hb, hml, hown, hts, hr, hlocks, hA, hG⟩ := id C
  intro k0_one k0_found k0_foundAt x4 x5 x6 H locs ls hf hP hD hS hl
  unfold fX6_rise_b106 at hf
  refine lv_aload_n hx hb dX6_rise_106 rfl (lv_at hl 0 rfl) ?_
  refine va_get (D := G.1) (ci := 6) (v := .ref q0_one) (C := RX6) (T := TX6) (N := 16) hx hb hts nX6_rise_X6 hown hG.1 hP 0 rfl rfl 0 (by decide) (hts _ mX6_rise_0) (fun _ h9 => h9) rfl dX6_rise_107 ?_
  refine lv_iload hx hb dX6_rise_110 (lv_at hl 4 rfl) ?_
  refine lv_iload hx hb dX6_rise_112 (lv_at hl 5 rfl) ?_
  obtain ⟨r1, hr1, hf⟩ := bd_use hf
  refine cl_S (wn := (wdX6_rise G q0 q0_one q0_other q0_third q0_waysTo q0_poly q0_then q0_steps q0_sheet q0_next q0_wide q0_partOf q0_partTimes q0_foundAt r1 k0_isParted k0_parts k0_found k0_foundAt)) (st1 := []) C hP hD hS (tX6_exchange l G q0_one k0_one x5 x6 r1 hr1) (va_cwS 3 hts gX6_rise_X6_exchange rfl rfl rfl (by decide +kernel) ⟨Nat.le_of_ble_eq_true rfl, Nat.le_of_ble_eq_true rfl⟩) [1] [0, 2] [0, 2, 1] rfl rfl rfl rfl (by decide) rfl rfl rfl hl.1 rfl rfl (Nat.le_of_ble_eq_true rfl) dX6_rise_114 (fun H locs hP hD hS => ?_)
  obtain ⟨y2, ey2⟩ : ∃ z : Int32, z = x6 + (1 : Int32) := ⟨_, rfl⟩
  have hf := nm_use ey2 hf
  refine lv_iinc (v := y2) (lv' := [(6, .int y2), (0, .ref q0), (2, .int p2), (3, .int p3), (4, .int x4), (5, .int x5)]) hx hb dX6_rise_117 hl (k := 5) rfl (by rw [ey2]; rfl) (by decide) rfl (fun ls hl => ?_)
  refine lv_goto (tgt := 63) hx hb dX6_rise_120 (by decide) ?_
  exact hr63 r1 k0_found k0_foundAt x4 x5 y2 _ _ ls hf hP hD hS (lv_sub hl [1, 2, 3, 4, 5, 0] rfl)
set_option maxHeartbeats 4000000 in
set_option maxRecDepth 100000 in
theorem wX6_rise_63 {p : Program} {l : Launch} {e : Env} {s : State} {m : MethodId} {args : Array Value} {below : List Frame} {meth : Method} {c : Code} {G : GX} {A : Nat → Prop} (C : Cx p s m args meth c cX6_rise 7 (some .int) wsX6_rise RX6 G A) (q0 : Nat) (q0_one : Nat) (q0_other : Nat) (q0_third : Nat) (q0_waysTo : Nat) (q0_poly : Nat) (q0_then : Nat) (q0_steps : Nat) (q0_sheet : Nat) (q0_next : Nat) (q0_wide : Nat) (q0_partOf : Nat) (q0_partTimes : Nat) (q0_foundAt : Nat) (k0_isParted : Int32) (k0_parts : Int32) (p1 : Int32) (p2 : Int32) (p3 : Int32) (res : Int32 × (Nat → Int32) × Int32 × (Nat → Int32)) (rec52 : (Nat → Int32) → Int32 → (Nat → Int32) → Int32 → Int32 → Option (Int32 × (Nat → Int32) × Int32 × (Nat → Int32))) (hr52 : ∀ (k0_one : Nat → Int32) (k0_found : Int32) (k0_foundAt : Nat → Int32) (x4 : Int32) (x5 : Int32) (H : Heap) (locs : List Loc) (ls : Array Slot), rec52 k0_one k0_found k0_foundAt x4 x5 = some res → va_P G.1 vwCl (wdX6_rise G q0 q0_one q0_other q0_third q0_waysTo q0_poly q0_then q0_steps q0_sheet q0_next q0_wide q0_partOf q0_partTimes q0_foundAt k0_one k0_isParted k0_parts k0_found k0_foundAt) H → va_D A (wdX6_rise G q0 q0_one q0_other q0_third q0_waysTo q0_poly q0_then q0_steps q0_sheet q0_next q0_wide q0_partOf q0_partTimes q0_foundAt k0_one k0_isParted k0_parts k0_found k0_foundAt) → va_S A s.heap H locs → lv_has ls 7 [(0, .ref q0), (2, .int p2), (3, .int p3), (4, .int x4), (5, .int x5)] → glX6_rise p l e s m args below meth c G A q0 q0_one q0_other q0_third q0_waysTo q0_poly q0_then q0_steps q0_sheet q0_next q0_wide q0_partOf q0_partTimes q0_foundAt k0_isParted k0_parts res H locs 52 ls []) (n : Nat) : ∀ (k0_one : Nat → Int32) (k0_found : Int32) (k0_foundAt : Nat → Int32) (x4 : Int32) (x5 : Int32) (x6 : Int32) (H : Heap) (locs : List Loc) (ls : Array Slot), fX6_rise_L63 p1 p2 p3 rec52 n k0_one k0_found k0_foundAt x4 x5 x6 = some res → va_P G.1 vwCl (wdX6_rise G q0 q0_one q0_other q0_third q0_waysTo q0_poly q0_then q0_steps q0_sheet q0_next q0_wide q0_partOf q0_partTimes q0_foundAt k0_one k0_isParted k0_parts k0_found k0_foundAt) H → va_D A (wdX6_rise G q0 q0_one q0_other q0_third q0_waysTo q0_poly q0_then q0_steps q0_sheet q0_next q0_wide q0_partOf q0_partTimes q0_foundAt k0_one k0_isParted k0_parts k0_found k0_foundAt) → va_S A s.heap H locs → lv_has ls 7 [(0, .ref q0), (2, .int p2), (3, .int p3), (4, .int x4), (5, .int x5), (6, .int x6)] → glX6_rise p l e s m args below meth c G A q0 q0_one q0_other q0_third q0_waysTo q0_poly q0_then q0_steps q0_sheet q0_next q0_wide q0_partOf q0_partTimes q0_foundAt k0_isParted k0_parts res H locs 63 ls [] := by
  obtain ⟨hx, hb, hml, hown, hts, hr, hlocks, hA, hG⟩ := id C
  induction n with
  | zero => intro k0_one k0_found k0_foundAt x4 x5 x6 H locs ls hf hP hD hS hl; cases hf
  | succ n ih =>
    intro k0_one k0_found k0_foundAt x4 x5 x6 H locs ls hf hP hD hS hl
    simp only [fX6_rise_L63] at hf
    refine lv_iload hx hb dX6_rise_63 (lv_at hl 5 rfl) ?_
    refine lv_bipush (v := (9 : Int32)) hx hb dX6_rise_65 (by decide) ?_
    refine lv_icmp_gt (tgt := 123) hx hb dX6_rise_67 (by decide) (fun hc => ?_) (fun hc => ?_)
    · have hf := if_t hc hf
      obtain ⟨y3, ey3⟩ : ∃ z : Int32, z = x5 + (1 : Int32) := ⟨_, rfl⟩
      have hf := nm_use ey3 hf
      refine lv_iinc (v := y3) (lv' := [(5, .int y3), (0, .ref q0), (2, .int p2), (3, .int p3), (4, .int x4), (6, .int x6)]) hx hb dX6_rise_123 hl (k := 4) rfl (by rw [ey3]; rfl) (by decide) rfl (fun ls hl => ?_)
      refine lv_goto (tgt := 52) hx hb dX6_rise_126 (by decide) ?_
      exact hr52 k0_one k0_found k0_foundAt x4 y3 _ _ ls hf hP hD hS (lv_sub hl [1, 2, 3, 4, 0] rfl)
    · have hf := if_f hc hf
      refine lv_aload_n hx hb dX6_rise_70 rfl (lv_at hl 0 rfl) ?_
      refine va_get (D := G.1) (ci := 6) (v := .ref q0_one) (C := RX6) (T := TX6) (N := 16) hx hb hts nX6_rise_X6 hown hG.1 hP 0 rfl rfl 0 (by decide) (hts _ mX6_rise_0) (fun _ h9 => h9) rfl dX6_rise_71 ?_
      refine lv_iload hx hb dX6_rise_74 (lv_at hl 4 rfl) ?_
      refine lv_iload hx hb dX6_rise_76 (lv_at hl 5 rfl) ?_
      obtain ⟨r4, hr4, hf⟩ := bd_use hf
      refine cl_S (wn := (wdX6_rise G q0 q0_one q0_other q0_third q0_waysTo q0_poly q0_then q0_steps q0_sheet q0_next q0_wide q0_partOf q0_partTimes q0_foundAt r4 k0_isParted k0_parts k0_found k0_foundAt)) (st1 := []) C hP hD hS (tX6_exchange l G q0_one k0_one x5 x6 r4 hr4) (va_cwS 3 hts gX6_rise_X6_exchange rfl rfl rfl (by decide +kernel) ⟨Nat.le_of_ble_eq_true rfl, Nat.le_of_ble_eq_true rfl⟩) [1] [0, 2] [0, 2, 1] rfl rfl rfl rfl (by decide) rfl rfl rfl hl.1 rfl rfl (Nat.le_of_ble_eq_true rfl) dX6_rise_78 (fun H locs hP hD hS => ?_)
      refine lv_aload_n hx hb dX6_rise_81 rfl (lv_at hl 0 rfl) ?_
      refine va_get (D := G.1) (ci := 6) (v := .ref q0_one) (C := RX6) (T := TX6) (N := 16) hx hb hts nX6_rise_X6 hown hG.1 hP 0 rfl rfl 0 (by decide) (hts _ mX6_rise_0) (fun _ h9 => h9) rfl dX6_rise_82 ?_
      obtain ⟨r5, hr5, hf⟩ := bd_use hf
      refine cl_S (wn := (wdX6_rise G q0 q0_one q0_other q0_third q0_waysTo q0_poly q0_then q0_steps q0_sheet q0_next q0_wide q0_partOf q0_partTimes q0_foundAt r4 k0_isParted k0_parts k0_found k0_foundAt)) (st1 := [.int r5]) C hP hD hS (tX6_lengthOf l G q0_one r4 r5 hr5) (va_cwS 1 hts gX6_rise_X6_lengthOf rfl rfl rfl (by decide +kernel) ⟨Nat.le_of_ble_eq_true rfl, Nat.le_of_ble_eq_true rfl⟩) [1] [0, 2] [0, 2, 1] rfl rfl rfl rfl (by decide) rfl rfl rfl hl.1 rfl rfl (Nat.le_of_ble_eq_true rfl) dX6_rise_85 (fun H locs hP hD hS => ?_)
      refine lv_iload hx hb dX6_rise_88 (lv_at hl 3 rfl) ?_
      refine lv_iconst (v := (1 : Int32)) hx hb dX6_rise_90 (by decide) ?_
      refine lv_iadd hx hb dX6_rise_91 ?_
      refine lv_icmp_ne (tgt := 106) hx hb dX6_rise_92 (by decide) (fun hc => ?_) (fun hc => ?_)
      · have hf := if_f hc hf
        exact wX6_rise_106 C q0 q0_one q0_other q0_third q0_waysTo q0_poly q0_then q0_steps q0_sheet q0_next q0_wide q0_partOf q0_partTimes q0_foundAt k0_isParted k0_parts p1 p2 p3 res rec52 hr52 (fX6_rise_L63 p1 p2 p3 rec52 n) ih r4 k0_found k0_foundAt x4 x5 x6 _ _ ls hf hP hD hS (lv_sub hl [0, 1, 2, 3, 4, 5] rfl)
      · have hf := if_t hc hf
        refine lv_aload_n hx hb dX6_rise_95 rfl (lv_at hl 0 rfl) ?_
        refine lv_aload_n hx hb dX6_rise_96 rfl (lv_at hl 0 rfl) ?_
        refine va_get (D := G.1) (ci := 6) (v := .ref q0_one) (C := RX6) (T := TX6) (N := 16) hx hb hts nX6_rise_X6 hown hG.1 hP 0 rfl rfl 0 (by decide) (hts _ mX6_rise_0) (fun _ h9 => h9) rfl dX6_rise_97 ?_
        obtain ⟨r6, hr6, hf⟩ := bd_use hf
        refine cl_S (wn := (wdX6_rise G q0 q0_one q0_other q0_third q0_waysTo q0_poly q0_then q0_steps q0_sheet q0_next q0_wide q0_partOf q0_partTimes q0_foundAt r4 k0_isParted k0_parts k0_found k0_foundAt)) (st1 := [.int r6, .ref q0]) C hP hD hS (tX6_plainOf l G q0_one r4 r6 hr6) (va_cwS 1 hts gX6_rise_X6_plainOf rfl rfl rfl (by decide +kernel) ⟨Nat.le_of_ble_eq_true rfl, Nat.le_of_ble_eq_true rfl⟩) [1] [0, 2] [0, 2, 1] rfl rfl rfl rfl (by decide) rfl rfl rfl hl.1 rfl rfl (Nat.le_of_ble_eq_true rfl) dX6_rise_100 (fun H locs hP hD hS => ?_)
        obtain ⟨r7, hr7, hf⟩ := bd_use hf
        refine cl_V (wn := (wdX6_rise G q0 q0_one q0_other q0_third q0_waysTo q0_poly q0_then q0_steps q0_sheet q0_next q0_wide q0_partOf q0_partTimes q0_foundAt r4 k0_isParted k0_parts r7.1 r7.2)) (st1 := []) C hP hD hS (tX6_finds l G q0 q0_one q0_other q0_third q0_waysTo q0_poly q0_then q0_steps q0_sheet q0_next q0_wide q0_partOf q0_partTimes q0_foundAt k0_isParted k0_parts k0_found k0_foundAt r6 r7 hr7) (cwV 1 hts gX6_rise_X6_finds rfl rfl rfl (by decide +kernel) ⟨Nat.le_of_ble_eq_true rfl, Nat.le_of_ble_eq_true rfl⟩) [0, 2] [1] [1, 0, 2] rfl rfl rfl rfl (by decide) rfl rfl (ci := 6) (q0 := 0) rfl rfl rfl rfl hl.1 rfl rfl (Nat.le_of_ble_eq_true rfl) dX6_rise_103 (fun H locs hP hD hS => ?_)
        exact wX6_rise_106 C q0 q0_one q0_other q0_third q0_waysTo q0_poly q0_then q0_steps q0_sheet q0_next q0_wide q0_partOf q0_partTimes q0_foundAt k0_isParted k0_parts p1 p2 p3 res rec52 hr52 (fX6_rise_L63 p1 p2 p3 rec52 n) ih r4 r7.1 r7.2 x4 x5 x6 _ _ ls hf hP hD hS (lv_sub hl [0, 1, 2, 3, 4, 5] rfl)
set_option maxHeartbeats 4000000 in
set_option maxRecDepth 100000 in
theorem wX6_rise_52 {p : Program} {l : Launch} {e : Env} {s : State} {m : MethodId} {args : Array Value} {below : List Frame} {meth : Method} {c : Code} {G : GX} {A : Nat → Prop} (C : Cx p s m args meth c cX6_rise 7 (some .int) wsX6_rise RX6 G A) (q0 : Nat) (q0_one : Nat) (q0_other : Nat) (q0_third : Nat) (q0_waysTo : Nat) (q0_poly : Nat) (q0_then : Nat) (q0_steps : Nat) (q0_sheet : Nat) (q0_next : Nat) (q0_wide : Nat) (q0_partOf : Nat) (q0_partTimes : Nat) (q0_foundAt : Nat) (k0_isParted : Int32) (k0_parts : Int32) (p1 : Int32) (p2 : Int32) (p3 : Int32) (res : Int32 × (Nat → Int32) × Int32 × (Nat → Int32)) (n : Nat) : ∀ (k0_one : Nat → Int32) (k0_found : Int32) (k0_foundAt : Nat → Int32) (x4 : Int32) (x5 : Int32) (H : Heap) (locs : List Loc) (ls : Array Slot), fX6_rise_L52 p1 p2 p3 n k0_one k0_found k0_foundAt x4 x5 = some res → va_P G.1 vwCl (wdX6_rise G q0 q0_one q0_other q0_third q0_waysTo q0_poly q0_then q0_steps q0_sheet q0_next q0_wide q0_partOf q0_partTimes q0_foundAt k0_one k0_isParted k0_parts k0_found k0_foundAt) H → va_D A (wdX6_rise G q0 q0_one q0_other q0_third q0_waysTo q0_poly q0_then q0_steps q0_sheet q0_next q0_wide q0_partOf q0_partTimes q0_foundAt k0_one k0_isParted k0_parts k0_found k0_foundAt) → va_S A s.heap H locs → lv_has ls 7 [(0, .ref q0), (2, .int p2), (3, .int p3), (4, .int x4), (5, .int x5)] → glX6_rise p l e s m args below meth c G A q0 q0_one q0_other q0_third q0_waysTo q0_poly q0_then q0_steps q0_sheet q0_next q0_wide q0_partOf q0_partTimes q0_foundAt k0_isParted k0_parts res H locs 52 ls [] := by
  obtain ⟨hx, hb, hml, hown, hts, hr, hlocks, hA, hG⟩ := id C
  induction n with
  | zero => intro k0_one k0_found k0_foundAt x4 x5 H locs ls hf hP hD hS hl; cases hf
  | succ n ih =>
    intro k0_one k0_found k0_foundAt x4 x5 H locs ls hf hP hD hS hl
    simp only [fX6_rise_L52] at hf
    refine lv_iload hx hb dX6_rise_52 (lv_at hl 4 rfl) ?_
    refine lv_iload_n hx hb dX6_rise_54 rfl (lv_at hl 1 rfl) ?_
    refine lv_icmp_gt (tgt := 129) hx hb dX6_rise_55 (by decide) (fun hc => ?_) (fun hc => ?_)
    · have hf := if_t hc hf
      refine lv_aload_n hx hb dX6_rise_129 rfl (lv_at hl 0 rfl) ?_
      refine lv_iload_n hx hb dX6_rise_130 rfl (lv_at hl 2 rfl) ?_
      obtain ⟨r8, hr8, hf⟩ := bd_use hf
      refine cl_V (wn := (wdX6_rise G q0 q0_one q0_other q0_third q0_waysTo q0_poly q0_then q0_steps q0_sheet q0_next q0_wide q0_partOf q0_partTimes q0_foundAt k0_one k0_isParted k0_parts k0_found k0_foundAt)) (st1 := [.int r8]) C hP hD hS (tX6_foundBy l G q0 q0_one q0_other q0_third q0_waysTo q0_poly q0_then q0_steps q0_sheet q0_next q0_wide q0_partOf q0_partTimes q0_foundAt k0_isParted k0_parts k0_found k0_foundAt p3 r8 hr8) (cwV 1 hts gX6_rise_X6_foundBy rfl rfl rfl (by decide +kernel) ⟨Nat.le_of_ble_eq_true rfl, Nat.le_of_ble_eq_true rfl⟩) [0, 2] [1] [1, 0, 2] rfl rfl rfl rfl (by decide) rfl rfl (ci := 6) (q0 := 0) rfl rfl rfl rfl hl.1 rfl rfl (Nat.le_of_ble_eq_true rfl) dX6_rise_131 (fun H locs hP hD hS => ?_)
      cases hf
      exact rt_i C hP hD hS dX6_rise_134
    · have hf := if_f hc hf
      refine lv_iload_n hx hb dX6_rise_58 rfl (lv_at hl 1 rfl) ?_
      refine lv_iconst (v := (1 : Int32)) hx hb dX6_rise_59 (by decide) ?_
      refine lv_iadd hx hb dX6_rise_60 ?_
      refine lv_topi (fun y9 ey9 => ?_)
      have hf := nm_use ey9 hf
      refine lv_istore (lv' := [(6, .int y9), (0, .ref q0), (2, .int p2), (3, .int p3), (4, .int x4), (5, .int x5)]) hx hb dX6_rise_61 hl (by decide) rfl (fun ls hl => ?_)
      exact wX6_rise_63 C q0 q0_one q0_other q0_third q0_waysTo q0_poly q0_then q0_steps q0_sheet q0_next q0_wide q0_partOf q0_partTimes q0_foundAt k0_isParted k0_parts p1 p2 p3 res (fX6_rise_L52 p1 p2 p3 n) ih fu k0_one k0_found k0_foundAt x4 x5 y9 _ _ ls hf hP hD hS (lv_sub hl [1, 2, 3, 4, 5, 0] rfl)
set_option maxHeartbeats 4000000 in
set_option maxRecDepth 100000 in
theorem tX6_rise (l : Launch) (G : GX) (q0 : Nat) (q0_one : Nat) (q0_other : Nat) (q0_third : Nat) (q0_waysTo : Nat) (q0_poly : Nat) (q0_then : Nat) (q0_steps : Nat) (q0_sheet : Nat) (q0_next : Nat) (q0_wide : Nat) (q0_partOf : Nat) (q0_partTimes : Nat) (q0_foundAt : Nat) (k0_one : Nat → Int32) (k0_isParted : Int32) (k0_parts : Int32) (k0_found : Int32) (k0_foundAt : Nat → Int32) (p1 : Int32) (p2 : Int32) (p3 : Int32) (res : Int32 × (Nat → Int32) × Int32 × (Nat → Int32)) (hf : fX6_rise k0_one k0_found k0_foundAt p1 p2 p3 = some res) : Ct l yX6_rise wsX6_rise rmX6_rise G [.ref q0, .int p1, .int p2, .int p3] (wdX6_rise G q0 q0_one q0_other q0_third q0_waysTo q0_poly q0_then q0_steps q0_sheet q0_next q0_wide q0_partOf q0_partTimes q0_foundAt k0_one k0_isParted k0_parts k0_found k0_foundAt) (wdX6_rise G q0 q0_one q0_other q0_third q0_waysTo q0_poly q0_then q0_steps q0_sheet q0_next q0_wide q0_partOf q0_partTimes q0_foundAt res.2.1 k0_isParted k0_parts res.2.2.1 res.2.2.2) (some (.int res.1)) := by
  refine Ct.of (cc := cX6_rise) (nL := 7) (ret := (some .int)) (by decide) rfl (Nat.le_of_ble_eq_true rfl) rfl ?_
  intro p e s m below meth c A ls C hP hD hl
  obtain ⟨hx, hb, hml, hown, hts, hr, hlocks, hA, hG⟩ := id C
  have hS : va_S A s.heap s.heap [] := va_S.rf
  unfold fX6_rise at hf
  refine lv_iload_n hx hb dX6_rise_0 rfl (lv_at hl 1 rfl) ?_
  refine lv_aload_n hx hb dX6_rise_1 rfl (lv_at hl 0 rfl) ?_
  refine va_get (D := G.1) (ci := 6) (v := .ref q0_one) (C := RX6) (T := TX6) (N := 16) hx hb hts nX6_rise_X6 hown hG.1 hP 0 rfl rfl 0 (by decide) (hts _ mX6_rise_0) (fun _ h9 => h9) rfl dX6_rise_2 ?_
  obtain ⟨r10, hr10, hf⟩ := bd_use hf
  refine cl_S (wn := (wdX6_rise G q0 q0_one q0_other q0_third q0_waysTo q0_poly q0_then q0_steps q0_sheet q0_next q0_wide q0_partOf q0_partTimes q0_foundAt r10.2 k0_isParted k0_parts k0_found k0_foundAt)) (st1 := [.int r10.1]) C hP hD hS (tX6_lays l G q0_one k0_one p1 r10 hr10) (va_cwS 2 hts gX6_rise_X6_lays rfl rfl rfl (by decide +kernel) ⟨Nat.le_of_ble_eq_true rfl, Nat.le_of_ble_eq_true rfl⟩) [1] [0, 2] [0, 2, 1] rfl rfl rfl rfl (by decide) rfl rfl rfl hl.1 rfl rfl (Nat.le_of_ble_eq_true rfl) dX6_rise_5 (fun H locs hP hD hS => ?_)
  refine lv_if_eq (tgt := 32) hx hb dX6_rise_8 (by decide) (fun hc => ?_) (fun hc => ?_)
  · have hf := if_t hc hf
    refine lv_bipush (v := (-2 : Int32)) hx hb dX6_rise_32 (by decide) ?_
    cases hf
    exact rt_i C hP hD hS dX6_rise_34
  · have hf := if_f hc hf
    refine lv_iload_n hx hb dX6_rise_11 rfl (lv_at hl 1 rfl) ?_
    refine lv_ldc (v := (99999999 : Int32)) hx hb hown (hts _ mX6_rise_1) dX6_rise_12 ?_
    refine lv_icmp_gt (tgt := 32) hx hb dX6_rise_14 (by decide) (fun hc => ?_) (fun hc => ?_)
    · have hf := if_t hc hf
      refine lv_bipush (v := (-2 : Int32)) hx hb dX6_rise_32 (by decide) ?_
      cases hf
      exact rt_i C hP hD hS dX6_rise_34
    · have hf := if_f hc hf
      refine lv_iload_n hx hb dX6_rise_17 rfl (lv_at hl 2 rfl) ?_
      refine lv_iconst (v := (1 : Int32)) hx hb dX6_rise_18 (by decide) ?_
      refine lv_bipush (v := (8 : Int32)) hx hb dX6_rise_19 (by decide) ?_
      obtain ⟨r11, hr11, hf⟩ := bd_use hf
      refine cl_S (wn := (wdX6_rise G q0 q0_one q0_other q0_third q0_waysTo q0_poly q0_then q0_steps q0_sheet q0_next q0_wide q0_partOf q0_partTimes q0_foundAt r10.2 k0_isParted k0_parts k0_found k0_foundAt)) (st1 := [.int r11]) C hP hD hS (tX6_within l G p2 (1 : Int32) (8 : Int32) r11 hr11) (va_cwS 3 hts gX6_rise_X6_within rfl rfl rfl (by decide +kernel) ⟨Nat.le_of_ble_eq_true rfl, Nat.le_of_ble_eq_true rfl⟩) [] [0, 1, 2] [0, 1, 2] rfl rfl rfl rfl (by decide) rfl rfl rfl hl.1 rfl rfl (Nat.le_of_ble_eq_true rfl) dX6_rise_21 (fun H locs hP hD hS => ?_)
      refine lv_if_eq (tgt := 32) hx hb dX6_rise_24 (by decide) (fun hc => ?_) (fun hc => ?_)
      · have hf := if_t hc hf
        refine lv_bipush (v := (-2 : Int32)) hx hb dX6_rise_32 (by decide) ?_
        cases hf
        exact rt_i C hP hD hS dX6_rise_34
      · have hf := if_f hc hf
        refine lv_iload_n hx hb dX6_rise_27 rfl (lv_at hl 3 rfl) ?_
        refine lv_iconst (v := (-1 : Int32)) hx hb dX6_rise_28 (by decide) ?_
        refine lv_icmp_ge (tgt := 35) hx hb dX6_rise_29 (by decide) (fun hc => ?_) (fun hc => ?_)
        · have hf := if_t hc hf
          refine lv_aload_n hx hb dX6_rise_35 rfl (lv_at hl 0 rfl) ?_
          refine va_get (D := G.1) (ci := 6) (v := .ref q0_one) (C := RX6) (T := TX6) (N := 16) hx hb hts nX6_rise_X6 hown hG.1 hP 0 rfl rfl 0 (by decide) (hts _ mX6_rise_0) (fun _ h9 => h9) rfl dX6_rise_36 ?_
          obtain ⟨r12, hr12, hf⟩ := bd_use hf
          refine cl_S (wn := (wdX6_rise G q0 q0_one q0_other q0_third q0_waysTo q0_poly q0_then q0_steps q0_sheet q0_next q0_wide q0_partOf q0_partTimes q0_foundAt r10.2 k0_isParted k0_parts k0_found k0_foundAt)) (st1 := [.int r12]) C hP hD hS (tX6_lengthOf l G q0_one r10.2 r12 hr12) (va_cwS 1 hts gX6_rise_X6_lengthOf rfl rfl rfl (by decide +kernel) ⟨Nat.le_of_ble_eq_true rfl, Nat.le_of_ble_eq_true rfl⟩) [1] [0, 2] [0, 2, 1] rfl rfl rfl rfl (by decide) rfl rfl rfl hl.1 rfl rfl (Nat.le_of_ble_eq_true rfl) dX6_rise_39 (fun H locs hP hD hS => ?_)
          refine lv_istore (lv' := [(4, .int r12), (0, .ref q0), (1, .int p1), (2, .int p2), (3, .int p3)]) hx hb dX6_rise_42 hl (by decide) rfl (fun ls hl => ?_)
          refine lv_aload_n hx hb dX6_rise_44 rfl (lv_at hl 1 rfl) ?_
          refine lv_iconst (v := (0 : Int32)) hx hb dX6_rise_45 (by decide) ?_
          refine va_put (D := G.1) (ci := 6) (v := .int (0 : Int32)) (ty := .int) (C := RX6) (T := TX6) (N := 16) hx hb hts nX6_rise_X6 tyX6 tyX6_ok nmX6 hown hG.1 hP hD hS 0 rfl rfl 14 (by decide) (hts _ mX6_rise_2) (fun _ h9 => h9) rfl (by decide +kernel) rfl rfl (Nat.le_of_ble_eq_true rfl) dX6_rise_46 (fun H locs hP hD hS => ?_)
          have hP : va_P G.1 vwCl (wdX6_rise G q0 q0_one q0_other q0_third q0_waysTo q0_poly q0_then q0_steps q0_sheet q0_next q0_wide q0_partOf q0_partTimes q0_foundAt r10.2 k0_isParted k0_parts (0 : Int32) k0_foundAt) H := hP
          have hD : va_D A (wdX6_rise G q0 q0_one q0_other q0_third q0_waysTo q0_poly q0_then q0_steps q0_sheet q0_next q0_wide q0_partOf q0_partTimes q0_foundAt r10.2 k0_isParted k0_parts (0 : Int32) k0_foundAt) := hD
          refine lv_iconst (v := (1 : Int32)) hx hb dX6_rise_49 (by decide) ?_
          refine lv_istore (lv' := [(5, .int (1 : Int32)), (4, .int r12), (0, .ref q0), (1, .int p1), (2, .int p2), (3, .int p3)]) hx hb dX6_rise_50 hl (by decide) rfl (fun ls hl => ?_)
          exact wX6_rise_52 C q0 q0_one q0_other q0_third q0_waysTo q0_poly q0_then q0_steps q0_sheet q0_next q0_wide q0_partOf q0_partTimes q0_foundAt k0_isParted k0_parts p1 p2 p3 res fu r10.2 (0 : Int32) k0_foundAt r12 (1 : Int32) _ _ ls hf hP hD hS (lv_sub hl [2, 4, 5, 1, 0] rfl)
        · have hf := if_f hc hf
          refine lv_bipush (v := (-2 : Int32)) hx hb dX6_rise_32 (by decide) ?_
          cases hf
          exact rt_i C hP hD hS dX6_rise_34
