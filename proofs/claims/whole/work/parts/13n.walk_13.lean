abbrev wdX6_exponentAt (G : GX) : va_W := []
abbrev rmX6_exponentAt : Room := { frames := 0, cells := 0, slots := 0, locals := 0 }
abbrev glX6_exponentAt (p : Program) (l : Launch) (e : Env) (s : State) (m : MethodId) (args : Array Value) (below : List Frame) (meth : Method) (c : Code) (G : GX) (A : Nat → Prop) (res : Int32) (H : Heap) (locs : List Loc) (pc : Nat) (ls : Array Slot) (st : List Value) : Prop := W p l e rmX6_exponentAt s m args below meth c H locs 0 0 (MQ below (ctQ G A (wdX6_exponentAt G) (some (.int res))) args s 0 0 A) (F0 m pc ls st)
set_option maxHeartbeats 4000000 in
set_option maxRecDepth 100000 in
theorem tX6_exponentAt (l : Launch) (G : GX) (p0 : Int32) (p1 : Int32) (res : Int32) (hf : fX6_exponentAt p0 p1 = some res) : Ct l yX6_exponentAt wsX6_exponentAt rmX6_exponentAt G [.int p0, .int p1] (wdX6_exponentAt G) (wdX6_exponentAt G) (some (.int res)) := by
  refine Ct.of (cc := cX6_exponentAt) (nL := 2) (ret := (some .int)) (by decide) rfl (Nat.le_of_ble_eq_true rfl) rfl ?_
  intro p e s m below meth c A ls C hP hD hl
  obtain ⟨hx, hb, hml, hown, hts, hr, hlocks, hA, hG⟩ := id C
  have hS : va_S A s.heap s.heap [] := va_S.rf
  unfold fX6_exponentAt at hf
  refine lv_iload_n hx hb dX6_exponentAt_0 rfl (lv_at hl 1 rfl) ?_
  refine lv_iconst (v := (1 : Int32)) hx hb dX6_exponentAt_1 (by decide) ?_
  refine lv_icmp_ne (tgt := 13) hx hb dX6_exponentAt_2 (by decide) (fun hc => ?_) (fun hc => ?_)
  · have hf := if_f hc hf
    refine lv_iload_n hx hb dX6_exponentAt_13 rfl (lv_at hl 1 rfl) ?_
    refine lv_iconst (v := (2 : Int32)) hx hb dX6_exponentAt_14 (by decide) ?_
    refine lv_icmp_ne (tgt := 28) hx hb dX6_exponentAt_15 (by decide) (fun hc => ?_) (fun hc => ?_)
    · have hf := if_f hc hf
      refine lv_iload_n hx hb dX6_exponentAt_28 rfl (lv_at hl 1 rfl) ?_
      refine lv_iconst (v := (3 : Int32)) hx hb dX6_exponentAt_29 (by decide) ?_
      refine lv_icmp_ne (tgt := 43) hx hb dX6_exponentAt_30 (by decide) (fun hc => ?_) (fun hc => ?_)
      · have hf := if_f hc hf
        refine lv_iload_n hx hb dX6_exponentAt_43 rfl (lv_at hl 0 rfl) ?_
        refine lv_bipush (v := (6 : Int32)) hx hb dX6_exponentAt_44 (by decide) ?_
        refine lv_irem hx hb dX6_exponentAt_46 (by decide) ?_
        cases hf
        exact rt_i C hP hD hS dX6_exponentAt_47
      · have hf := if_t hc hf
        refine lv_iload_n hx hb dX6_exponentAt_33 rfl (lv_at hl 0 rfl) ?_
        refine lv_bipush (v := (6 : Int32)) hx hb dX6_exponentAt_34 (by decide) ?_
        refine lv_idiv hx hb dX6_exponentAt_36 (by decide) ?_
        refine lv_bipush (v := (7 : Int32)) hx hb dX6_exponentAt_37 (by decide) ?_
        refine lv_irem hx hb dX6_exponentAt_39 (by decide) ?_
        refine lv_goto (tgt := 47) hx hb dX6_exponentAt_40 (by decide) ?_
        cases hf
        exact rt_i C hP hD hS dX6_exponentAt_47
    · have hf := if_t hc hf
      refine lv_iload_n hx hb dX6_exponentAt_18 rfl (lv_at hl 0 rfl) ?_
      refine lv_bipush (v := (42 : Int32)) hx hb dX6_exponentAt_19 (by decide) ?_
      refine lv_idiv hx hb dX6_exponentAt_21 (by decide) ?_
      refine lv_bipush (v := (8 : Int32)) hx hb dX6_exponentAt_22 (by decide) ?_
      refine lv_irem hx hb dX6_exponentAt_24 (by decide) ?_
      refine lv_goto (tgt := 47) hx hb dX6_exponentAt_25 (by decide) ?_
      cases hf
      exact rt_i C hP hD hS dX6_exponentAt_47
  · have hf := if_t hc hf
    refine lv_iload_n hx hb dX6_exponentAt_5 rfl (lv_at hl 0 rfl) ?_
    refine lv_sipush (v := (336 : Int32)) hx hb dX6_exponentAt_6 (by decide) ?_
    refine lv_idiv hx hb dX6_exponentAt_9 (by decide) ?_
    refine lv_goto (tgt := 47) hx hb dX6_exponentAt_10 (by decide) ?_
    cases hf
    exact rt_i C hP hD hS dX6_exponentAt_47
abbrev wdX6_strideOf (G : GX) : va_W := []
abbrev rmX6_strideOf : Room := { frames := 0, cells := 0, slots := 0, locals := 0 }
abbrev glX6_strideOf (p : Program) (l : Launch) (e : Env) (s : State) (m : MethodId) (args : Array Value) (below : List Frame) (meth : Method) (c : Code) (G : GX) (A : Nat → Prop) (res : Int32) (H : Heap) (locs : List Loc) (pc : Nat) (ls : Array Slot) (st : List Value) : Prop := W p l e rmX6_strideOf s m args below meth c H locs 0 0 (MQ below (ctQ G A (wdX6_strideOf G) (some (.int res))) args s 0 0 A) (F0 m pc ls st)
set_option maxHeartbeats 4000000 in
set_option maxRecDepth 100000 in
theorem tX6_strideOf (l : Launch) (G : GX) (p0 : Int32) (res : Int32) (hf : fX6_strideOf p0 = some res) : Ct l yX6_strideOf wsX6_strideOf rmX6_strideOf G [.int p0] (wdX6_strideOf G) (wdX6_strideOf G) (some (.int res)) := by
  refine Ct.of (cc := cX6_strideOf) (nL := 1) (ret := (some .int)) (by decide) rfl (Nat.le_of_ble_eq_true rfl) rfl ?_
  intro p e s m below meth c A ls C hP hD hl
  obtain ⟨hx, hb, hml, hown, hts, hr, hlocks, hA, hG⟩ := id C
  have hS : va_S A s.heap s.heap [] := va_S.rf
  unfold fX6_strideOf at hf
  refine lv_iload_n hx hb dX6_strideOf_0 rfl (lv_at hl 0 rfl) ?_
  refine lv_iconst (v := (1 : Int32)) hx hb dX6_strideOf_1 (by decide) ?_
  refine lv_icmp_ne (tgt := 11) hx hb dX6_strideOf_2 (by decide) (fun hc => ?_) (fun hc => ?_)
  · have hf := if_f hc hf
    refine lv_iload_n hx hb dX6_strideOf_11 rfl (lv_at hl 0 rfl) ?_
    refine lv_iconst (v := (2 : Int32)) hx hb dX6_strideOf_12 (by decide) ?_
    refine lv_icmp_ne (tgt := 21) hx hb dX6_strideOf_13 (by decide) (fun hc => ?_) (fun hc => ?_)
    · have hf := if_f hc hf
      refine lv_iload_n hx hb dX6_strideOf_21 rfl (lv_at hl 0 rfl) ?_
      refine lv_iconst (v := (3 : Int32)) hx hb dX6_strideOf_22 (by decide) ?_
      refine lv_icmp_ne (tgt := 31) hx hb dX6_strideOf_23 (by decide) (fun hc => ?_) (fun hc => ?_)
      · have hf := if_f hc hf
        refine lv_iconst (v := (1 : Int32)) hx hb dX6_strideOf_31 (by decide) ?_
        cases hf
        exact rt_i C hP hD hS dX6_strideOf_32
      · have hf := if_t hc hf
        refine lv_bipush (v := (6 : Int32)) hx hb dX6_strideOf_26 (by decide) ?_
        refine lv_goto (tgt := 32) hx hb dX6_strideOf_28 (by decide) ?_
        cases hf
        exact rt_i C hP hD hS dX6_strideOf_32
    · have hf := if_t hc hf
      refine lv_bipush (v := (42 : Int32)) hx hb dX6_strideOf_16 (by decide) ?_
      refine lv_goto (tgt := 32) hx hb dX6_strideOf_18 (by decide) ?_
      cases hf
      exact rt_i C hP hD hS dX6_strideOf_32
  · have hf := if_t hc hf
    refine lv_sipush (v := (336 : Int32)) hx hb dX6_strideOf_5 (by decide) ?_
    refine lv_goto (tgt := 32) hx hb dX6_strideOf_8 (by decide) ?_
    cases hf
    exact rt_i C hP hD hS dX6_strideOf_32
abbrev wdX6_differs (G : GX) (q0 : Nat) (q0_one : Nat) (q0_other : Nat) (q0_third : Nat) (q0_waysTo : Nat) (q0_poly : Nat) (q0_then : Nat) (q0_steps : Nat) (q0_sheet : Nat) (q0_next : Nat) (q0_wide : Nat) (q0_partOf : Nat) (q0_partTimes : Nat) (q0_foundAt : Nat) (q1 : Nat) (k0_then : Nat → Int64) (k0_isParted : Int32) (k0_parts : Int32) (k0_found : Int32) (k1 : Nat → Int64) : va_W := [(q0, .inr (6, [.ref q0_one, .ref q0_other, .ref q0_third, .ref q0_waysTo, .ref q0_poly, .ref q0_then, .ref q0_steps, .ref q0_sheet, .ref q0_next, .int k0_isParted, .ref q0_wide, .int k0_parts, .ref q0_partOf, .ref q0_partTimes, .int k0_found, .ref q0_foundAt])), (q0_then, .inl (G.2.2.1, 3024, .inr (.inl k0_then))), (q1, .inl (G.2.2.1, 3024, .inr (.inl k1)))]
abbrev rmX6_differs : Room := { frames := 1, cells := 0, slots := 0, locals := 21 }
abbrev glX6_differs (p : Program) (l : Launch) (e : Env) (s : State) (m : MethodId) (args : Array Value) (below : List Frame) (meth : Method) (c : Code) (G : GX) (A : Nat → Prop) (q0 : Nat) (q0_one : Nat) (q0_other : Nat) (q0_third : Nat) (q0_waysTo : Nat) (q0_poly : Nat) (q0_then : Nat) (q0_steps : Nat) (q0_sheet : Nat) (q0_next : Nat) (q0_wide : Nat) (q0_partOf : Nat) (q0_partTimes : Nat) (q0_foundAt : Nat) (q1 : Nat) (k0_isParted : Int32) (k0_parts : Int32) (k0_found : Int32) (res : (Nat → Int64) × (Nat → Int64)) (H : Heap) (locs : List Loc) (pc : Nat) (ls : Array Slot) (st : List Value) : Prop := W p l e rmX6_differs s m args below meth c H locs 0 0 (MQ below (ctQ G A (wdX6_differs G q0 q0_one q0_other q0_third q0_waysTo q0_poly q0_then q0_steps q0_sheet q0_next q0_wide q0_partOf q0_partTimes q0_foundAt q1 res.1 k0_isParted k0_parts k0_found res.2) none) args s 0 0 A) (F0 m pc ls st)
set_option maxRecDepth 20000 in
theorem mX6_differs_0 : Cond.fieldLink RX6 26 "SchubertDeskModel" "then" "[J" ∈ wsX6_differs := by decide +kernel
set_option maxRecDepth 20000 in
theorem nX6_differs_X6 : ∀ w ∈ u_ws RX6 TX6 16, w ∈ wsX6_differs := by decide +kernel
set_option maxHeartbeats 4000000 in
set_option maxRecDepth 100000 in
theorem wX6_differs_194 {p : Program} {l : Launch} {e : Env} {s : State} {m : MethodId} {args : Array Value} {below : List Frame} {meth : Method} {c : Code} {G : GX} {A : Nat → Prop} (C : Cx p s m args meth c cX6_differs 12 none wsX6_differs RX6 G A) (q0 : Nat) (q0_one : Nat) (q0_other : Nat) (q0_third : Nat) (q0_waysTo : Nat) (q0_poly : Nat) (q0_then : Nat) (q0_steps : Nat) (q0_sheet : Nat) (q0_next : Nat) (q0_wide : Nat) (q0_partOf : Nat) (q0_partTimes : Nat) (q0_foundAt : Nat) (q1 : Nat) (k0_isParted : Int32) (k0_parts : Int32) (k0_found : Int32) (p2 : Int32) (res : (Nat → Int64) × (Nat → Int64)) (n : Nat) : ∀ (k0_then : Nat → Int64) (k1 : Nat → Int64) (x5 : Int32) (H : Heap) (locs : List Loc) (ls : Array Slot), fX6_differs_L194 p2 n k0_then k1 x5 = some res → va_P G.1 vwCl (wdX6_differs G q0 q0_one q0_other q0_third q0_waysTo q0_poly q0_then q0_steps q0_sheet q0_next q0_wide q0_partOf q0_partTimes q0_foundAt q1 k0_then k0_isParted k0_parts k0_found k1) H → va_D A (wdX6_differs G q0 q0_one q0_other q0_third q0_waysTo q0_poly q0_then q0_steps q0_sheet q0_next q0_wide q0_partOf q0_partTimes q0_foundAt q1 k0_then k0_isParted k0_parts k0_found k1) → va_S A s.heap H locs → lv_has ls 12 [(0, .ref q0), (1, .ref q1), (5, .int x5)] → glX6_differs p l e s m args below meth c G A q0 q0_one q0_other q0_third q0_waysTo q0_poly q0_then q0_steps q0_sheet q0_next q0_wide q0_partOf q0_partTimes q0_foundAt q1 k0_isParted k0_parts k0_found res H locs 194 ls [] := by
  obtain ⟨hx, hb, hml, hown, hts, hr, hlocks, hA, hG⟩ := id C
  induction n with
  | zero => intro k0_then k1 x5 H locs ls hf hP hD hS hl; cases hf
  | succ n ih =>
    intro k0_then k1 x5 H locs ls hf hP hD hS hl
    simp only [fX6_differs_L194] at hf
    refine lv_iload hx hb dX6_differs_194 (lv_at hl 2 rfl) ?_
    refine lv_sipush (v := (3024 : Int32)) hx hb dX6_differs_196 (by decide) ?_
    refine lv_icmp_ge (tgt := 219) hx hb dX6_differs_199 (by decide) (fun hc => ?_) (fun hc => ?_)
    · have hf := if_t hc hf
      cases hf
      exact rt_v C hP hD hS dX6_differs_219
    · have hf := if_f hc hf
      refine lv_aload_n hx hb dX6_differs_202 rfl (lv_at hl 1 rfl) ?_
      refine lv_iload hx hb dX6_differs_203 (lv_at hl 2 rfl) ?_
      refine lv_aload_n hx hb dX6_differs_205 rfl (lv_at hl 0 rfl) ?_
      refine va_get (D := G.1) (ci := 6) (v := .ref q0_then) (C := RX6) (T := TX6) (N := 16) hx hb hts nX6_differs_X6 hown hG.1 hP 0 rfl rfl 5 (by decide) (hts _ mX6_differs_0) (fun _ h9 => h9) rfl dX6_differs_206 ?_
      refine lv_iload hx hb dX6_differs_209 (lv_at hl 2 rfl) ?_
      obtain ⟨hin, hf⟩ := gJ_use hf
      refine va_lald hx hb hG.1 hP 1 1 rfl rfl hin dX6_differs_211 ?_
      obtain ⟨hin, hf⟩ := pJ_use hf
      refine va_last hx hb hG.1 hP hD hS 2 1 rfl rfl hin dX6_differs_212 (fun H locs hP hD hS => ?_)
      have hP : va_P G.1 vwCl (wdX6_differs G q0 q0_one q0_other q0_third q0_waysTo q0_poly q0_then q0_steps q0_sheet q0_next q0_wide q0_partOf q0_partTimes q0_foundAt q1 k0_then k0_isParted k0_parts k0_found (vp_updL k1 (x5).toNatClampNeg (k0_then (x5).toNatClampNeg))) H := hP
      have hD : va_D A (wdX6_differs G q0 q0_one q0_other q0_third q0_waysTo q0_poly q0_then q0_steps q0_sheet q0_next q0_wide q0_partOf q0_partTimes q0_foundAt q1 k0_then k0_isParted k0_parts k0_found (vp_updL k1 (x5).toNatClampNeg (k0_then (x5).toNatClampNeg))) := hD
      obtain ⟨y3, ey3⟩ : ∃ z : Int32, z = x5 + (1 : Int32) := ⟨_, rfl⟩
      have hf := nm_use ey3 hf
      refine lv_iinc (v := y3) (lv' := [(5, .int y3), (0, .ref q0), (1, .ref q1)]) hx hb dX6_differs_213 hl (k := 2) rfl (by rw [ey3]; rfl) (by decide) rfl (fun ls hl => ?_)
      refine lv_goto (tgt := 194) hx hb dX6_differs_216 (by decide) ?_
      exact ih k0_then (vp_updL k1 (x5).toNatClampNeg (k0_then (x5).toNatClampNeg)) y3 _ _ ls hf hP hD hS (lv_sub hl [1, 2, 0] rfl)
set_option maxHeartbeats 4000000 in
set_option maxRecDepth 100000 in
theorem wX6_differs_177 {p : Program} {l : Launch} {e : Env} {s : State} {m : MethodId} {args : Array Value} {below : List Frame} {meth : Method} {c : Code} {G : GX} {A : Nat → Prop} (C : Cx p s m args meth c cX6_differs 12 none wsX6_differs RX6 G A) (q0 : Nat) (q0_one : Nat) (q0_other : Nat) (q0_third : Nat) (q0_waysTo : Nat) (q0_poly : Nat) (q0_then : Nat) (q0_steps : Nat) (q0_sheet : Nat) (q0_next : Nat) (q0_wide : Nat) (q0_partOf : Nat) (q0_partTimes : Nat) (q0_foundAt : Nat) (q1 : Nat) (k0_isParted : Int32) (k0_parts : Int32) (k0_found : Int32) (p2 : Int32) (res : (Nat → Int64) × (Nat → Int64)) (rec38 : (Nat → Int64) → (Nat → Int64) → Int32 → Int32 → Int32 → Option ((Nat → Int64) × (Nat → Int64))) (hr38 : ∀ (k0_then : Nat → Int64) (k1 : Nat → Int64) (x3 : Int32) (x4 : Int32) (x5 : Int32) (H : Heap) (locs : List Loc) (ls : Array Slot), rec38 k0_then k1 x3 x4 x5 = some res → va_P G.1 vwCl (wdX6_differs G q0 q0_one q0_other q0_third q0_waysTo q0_poly q0_then q0_steps q0_sheet q0_next q0_wide q0_partOf q0_partTimes q0_foundAt q1 k0_then k0_isParted k0_parts k0_found k1) H → va_D A (wdX6_differs G q0 q0_one q0_other q0_third q0_waysTo q0_poly q0_then q0_steps q0_sheet q0_next q0_wide q0_partOf q0_partTimes q0_foundAt q1 k0_then k0_isParted k0_parts k0_found k1) → va_S A s.heap H locs → lv_has ls 12 [(0, .ref q0), (1, .ref q1), (2, .int p2), (3, .int x3), (4, .int x4), (5, .int x5)] → glX6_differs p l e s m args below meth c G A q0 q0_one q0_other q0_third q0_waysTo q0_poly q0_then q0_steps q0_sheet q0_next q0_wide q0_partOf q0_partTimes q0_foundAt q1 k0_isParted k0_parts k0_found res H locs 38 ls []) (rec124 : (Nat → Int64) → (Nat → Int64) → Int32 → Int32 → Int32 → Int32 → Int32 → Int32 → Int32 → Int32 → Int32 → Option ((Nat → Int64) × (Nat → Int64))) (hr124 : ∀ (k0_then : Nat → Int64) (k1 : Nat → Int64) (x3 : Int32) (x4 : Int32) (x5 : Int32) (x6 : Int32) (x7 : Int32) (x8 : Int32) (x9 : Int32) (x10 : Int32) (x11 : Int32) (H : Heap) (locs : List Loc) (ls : Array Slot), rec124 k0_then k1 x3 x4 x5 x6 x7 x8 x9 x10 x11 = some res → va_P G.1 vwCl (wdX6_differs G q0 q0_one q0_other q0_third q0_waysTo q0_poly q0_then q0_steps q0_sheet q0_next q0_wide q0_partOf q0_partTimes q0_foundAt q1 k0_then k0_isParted k0_parts k0_found k1) H → va_D A (wdX6_differs G q0 q0_one q0_other q0_third q0_waysTo q0_poly q0_then q0_steps q0_sheet q0_next q0_wide q0_partOf q0_partTimes q0_foundAt q1 k0_then k0_isParted k0_parts k0_found k1) → va_S A s.heap H locs → lv_has ls 12 [(0, .ref q0), (1, .ref q1), (2, .int p2), (3, .int x3), (4, .int x4), (5, .int x5), (6, .int x6), (7, .int x7), (8, .int x8), (9, .int x9), (10, .int x10), (11, .int x11)] → glX6_differs p l e s m args below meth c G A q0 q0_one q0_other q0_third q0_waysTo q0_poly q0_then q0_steps q0_sheet q0_next q0_wide q0_partOf q0_partTimes q0_foundAt q1 k0_isParted k0_parts k0_found res H locs 124 ls []) : ∀ (k0_then : Nat → Int64) (k1 : Nat → Int64) (x3 : Int32) (x4 : Int32) (x5 : Int32) (x6 : Int32) (x7 : Int32) (x8 : Int32) (x9 : Int32) (x10 : Int32) (x11 : Int32) (s1 : Int32) (s2 : Int64) (s3 : Int64) (H : Heap) (locs : List Loc) (ls : Array Slot), fX6_differs_b177 p2 rec38 rec124 k0_then k1 x3 x4 x5 x6 x7 x8 x9 x10 x11 s1 s2 s3 = some res → va_P G.1 vwCl (wdX6_differs G q0 q0_one q0_other q0_third q0_waysTo q0_poly q0_then q0_steps q0_sheet q0_next q0_wide q0_partOf q0_partTimes q0_foundAt q1 k0_then k0_isParted k0_parts k0_found k1) H → va_D A (wdX6_differs G q0 q0_one q0_other q0_third q0_waysTo q0_poly q0_then q0_steps q0_sheet q0_next q0_wide q0_partOf q0_partTimes q0_foundAt q1 k0_then k0_isParted k0_parts k0_found k1) → va_S A s.heap H locs → lv_has ls 12 [(0, .ref q0), (1, .ref q1), (2, .int p2), (3, .int x3), (4, .int x4), (5, .int x5), (6, .int x6), (7, .int x7), (8, .int x8), (9, .int x9), (10, .int x10), (11, .int x11)] → glX6_differs p l e s m args below meth c G A q0 q0_one q0_other q0_third q0_waysTo q0_poly q0_then q0_steps q0_sheet q0_next q0_wide q0_partOf q0_partTimes q0_foundAt q1 k0_isParted k0_parts k0_found res H locs 177 ls [.long s3, .long s2, .int s1, .ref q0_then] := by
  obtain ⟨hx, hb, hml, hown, hts, hr, hlocks, hA, hG⟩ := id C
  intro k0_then k1 x3 x4 x5 x6 x7 x8 x9 x10 x11 s1 s2 s3 H locs ls hf hP hD hS hl
  unfold fX6_differs_b177 at hf
  refine lv_ladd hx hb dX6_differs_177 ?_
  obtain ⟨hin, hf⟩ := pJ_use hf
  refine va_last hx hb hG.1 hP hD hS 1 1 rfl rfl hin dX6_differs_178 (fun H locs hP hD hS => ?_)
  have hP : va_P G.1 vwCl (wdX6_differs G q0 q0_one q0_other q0_third q0_waysTo q0_poly q0_then q0_steps q0_sheet q0_next q0_wide q0_partOf q0_partTimes q0_foundAt q1 (vp_updL k0_then (s1).toNatClampNeg (s2 + s3)) k0_isParted k0_parts k0_found k1) H := hP
  have hD : va_D A (wdX6_differs G q0 q0_one q0_other q0_third q0_waysTo q0_poly q0_then q0_steps q0_sheet q0_next q0_wide q0_partOf q0_partTimes q0_foundAt q1 (vp_updL k0_then (s1).toNatClampNeg (s2 + s3)) k0_isParted k0_parts k0_found k1) := hD
  obtain ⟨y5, ey5⟩ : ∃ z : Int32, z = x11 + (1 : Int32) := ⟨_, rfl⟩
  have hf := nm_use ey5 hf
  refine lv_iinc (v := y5) (lv' := [(11, .int y5), (0, .ref q0), (1, .ref q1), (2, .int p2), (3, .int x3), (4, .int x4), (5, .int x5), (6, .int x6), (7, .int x7), (8, .int x8), (9, .int x9), (10, .int x10)]) hx hb dX6_differs_179 hl (k := 11) rfl (by rw [ey5]; rfl) (by decide) rfl (fun ls hl => ?_)
  refine lv_goto (tgt := 124) hx hb dX6_differs_182 (by decide) ?_
  exact hr124 (vp_updL k0_then (s1).toNatClampNeg (s2 + s3)) k1 x3 x4 x5 x6 x7 x8 x9 x10 y5 _ _ ls hf hP hD hS (lv_sub hl [1, 2, 3, 4, 5, 6, 7, 8, 9, 10, 11, 0] rfl)
set_option maxHeartbeats 4000000 in
set_option maxRecDepth 100000 in
theorem wX6_differs_124 {p : Program} {l : Launch} {e : Env} {s : State} {m : MethodId} {args : Array Value} {below : List Frame} {meth : Method} {c : Code} {G : GX} {A : Nat → Prop} (C : Cx p s m args meth c cX6_differs 12 none wsX6_differs RX6 G A) (q0 : Nat) (q0_one : Nat) (q0_other : Nat) (q0_third : Nat) (q0_waysTo : Nat) (q0_poly : Nat) (q0_then : Nat) (q0_steps : Nat) (q0_sheet : Nat) (q0_next : Nat) (q0_wide : Nat) (q0_partOf : Nat) (q0_partTimes : Nat) (q0_foundAt : Nat) (q1 : Nat) (k0_isParted : Int32) (k0_parts : Int32) (k0_found : Int32) (p2 : Int32) (res : (Nat → Int64) × (Nat → Int64)) (rec38 : (Nat → Int64) → (Nat → Int64) → Int32 → Int32 → Int32 → Option ((Nat → Int64) × (Nat → Int64))) (hr38 : ∀ (k0_then : Nat → Int64) (k1 : Nat → Int64) (x3 : Int32) (x4 : Int32) (x5 : Int32) (H : Heap) (locs : List Loc) (ls : Array Slot), rec38 k0_then k1 x3 x4 x5 = some res → va_P G.1 vwCl (wdX6_differs G q0 q0_one q0_other q0_third q0_waysTo q0_poly q0_then q0_steps q0_sheet q0_next q0_wide q0_partOf q0_partTimes q0_foundAt q1 k0_then k0_isParted k0_parts k0_found k1) H → va_D A (wdX6_differs G q0 q0_one q0_other q0_third q0_waysTo q0_poly q0_then q0_steps q0_sheet q0_next q0_wide q0_partOf q0_partTimes q0_foundAt q1 k0_then k0_isParted k0_parts k0_found k1) → va_S A s.heap H locs → lv_has ls 12 [(0, .ref q0), (1, .ref q1), (2, .int p2), (3, .int x3), (4, .int x4), (5, .int x5)] → glX6_differs p l e s m args below meth c G A q0 q0_one q0_other q0_third q0_waysTo q0_poly q0_then q0_steps q0_sheet q0_next q0_wide q0_partOf q0_partTimes q0_foundAt q1 k0_isParted k0_parts k0_found res H locs 38 ls []) (n : Nat) : ∀ (k0_then : Nat → Int64) (k1 : Nat → Int64) (x3 : Int32) (x4 : Int32) (x5 : Int32) (x6 : Int32) (x7 : Int32) (x8 : Int32) (x9 : Int32) (x10 : Int32) (x11 : Int32) (H : Heap) (locs : List Loc) (ls : Array Slot), fX6_differs_L124 p2 rec38 n k0_then k1 x3 x4 x5 x6 x7 x8 x9 x10 x11 = some res → va_P G.1 vwCl (wdX6_differs G q0 q0_one q0_other q0_third q0_waysTo q0_poly q0_then q0_steps q0_sheet q0_next q0_wide q0_partOf q0_partTimes q0_foundAt q1 k0_then k0_isParted k0_parts k0_found k1) H → va_D A (wdX6_differs G q0 q0_one q0_other q0_third q0_waysTo q0_poly q0_then q0_steps q0_sheet q0_next q0_wide q0_partOf q0_partTimes q0_foundAt q1 k0_then k0_isParted k0_parts k0_found k1) → va_S A s.heap H locs → lv_has ls 12 [(0, .ref q0), (1, .ref q1), (2, .int p2), (3, .int x3), (4, .int x4), (5, .int x5), (6, .int x6), (7, .int x7), (8, .int x8), (9, .int x9), (10, .int x10), (11, .int x11)] → glX6_differs p l e s m args below meth c G A q0 q0_one q0_other q0_third q0_waysTo q0_poly q0_then q0_steps q0_sheet q0_next q0_wide q0_partOf q0_partTimes q0_foundAt q1 k0_isParted k0_parts k0_found res H locs 124 ls [] := by
  obtain ⟨hx, hb, hml, hown, hts, hr, hlocks, hA, hG⟩ := id C
  induction n with
  | zero => intro k0_then k1 x3 x4 x5 x6 x7 x8 x9 x10 x11 H locs ls hf hP hD hS hl; cases hf
  | succ n ih =>
    intro k0_then k1 x3 x4 x5 x6 x7 x8 x9 x10 x11 H locs ls hf hP hD hS hl
    simp only [fX6_differs_L124] at hf
    refine lv_iload hx hb dX6_differs_124 (lv_at hl 11 rfl) ?_
    refine lv_iload hx hb dX6_differs_126 (lv_at hl 9 rfl) ?_
    refine lv_icmp_ge (tgt := 185) hx hb dX6_differs_128 (by decide) (fun hc => ?_) (fun hc => ?_)
    · have hf := if_t hc hf
      obtain ⟨y6, ey6⟩ : ∃ z : Int32, z = x5 + (1 : Int32) := ⟨_, rfl⟩
      have hf := nm_use ey6 hf
      refine lv_iinc (v := y6) (lv' := [(5, .int y6), (0, .ref q0), (1, .ref q1), (2, .int p2), (3, .int x3), (4, .int x4), (6, .int x6), (7, .int x7), (8, .int x8), (9, .int x9), (10, .int x10), (11, .int x11)]) hx hb dX6_differs_185 hl (k := 5) rfl (by rw [ey6]; rfl) (by decide) rfl (fun ls hl => ?_)
      refine lv_goto (tgt := 38) hx hb dX6_differs_188 (by decide) ?_
      exact hr38 k0_then k1 x3 x4 y6 _ _ ls hf hP hD hS (lv_sub hl [1, 2, 3, 4, 5, 0] rfl)
    · have hf := if_f hc hf
      refine lv_aload_n hx hb dX6_differs_131 rfl (lv_at hl 0 rfl) ?_
      refine va_get (D := G.1) (ci := 6) (v := .ref q0_then) (C := RX6) (T := TX6) (N := 16) hx hb hts nX6_differs_X6 hown hG.1 hP 0 rfl rfl 5 (by decide) (hts _ mX6_differs_0) (fun _ h9 => h9) rfl dX6_differs_132 ?_
      refine lv_iload hx hb dX6_differs_135 (lv_at hl 10 rfl) ?_
      refine lv_iload hx hb dX6_differs_137 (lv_at hl 11 rfl) ?_
      refine lv_iload_n hx hb dX6_differs_139 rfl (lv_at hl 3 rfl) ?_
      refine lv_imul hx hb dX6_differs_140 ?_
      refine lv_iadd hx hb dX6_differs_141 ?_
      refine lv_iload hx hb dX6_differs_142 (lv_at hl 9 rfl) ?_
      refine lv_iload hx hb dX6_differs_144 (lv_at hl 8 rfl) ?_
      refine lv_iadd hx hb dX6_differs_146 ?_
      refine lv_iconst (v := (1 : Int32)) hx hb dX6_differs_147 (by decide) ?_
      refine lv_isub hx hb dX6_differs_148 ?_
      refine lv_iload hx hb dX6_differs_149 (lv_at hl 11 rfl) ?_
      refine lv_isub hx hb dX6_differs_151 ?_
      refine lv_iload hx hb dX6_differs_152 (lv_at hl 4 rfl) ?_
      refine lv_imul hx hb dX6_differs_154 ?_
      refine lv_iadd hx hb dX6_differs_155 ?_
      refine lv_dup2_11 hx hb dX6_differs_156 rfl rfl ?_
      obtain ⟨hin, hf⟩ := gJ_use hf
      refine va_lald hx hb hG.1 hP 1 1 rfl rfl hin dX6_differs_157 ?_
      refine lv_iload hx hb dX6_differs_158 (lv_at hl 6 rfl) ?_
      refine lv_iload hx hb dX6_differs_160 (lv_at hl 7 rfl) ?_
      refine lv_icmp_le (tgt := 172) hx hb dX6_differs_162 (by decide) (fun hc => ?_) (fun hc => ?_)
      · have hf := if_t hc hf
        refine lv_aload_n hx hb dX6_differs_172 rfl (lv_at hl 1 rfl) ?_
        refine lv_iload hx hb dX6_differs_173 (lv_at hl 5 rfl) ?_
        obtain ⟨hin, hf⟩ := gJ_use hf
        refine va_lald hx hb hG.1 hP 2 1 rfl rfl hin dX6_differs_175 ?_
        refine lv_lneg hx hb dX6_differs_176 ?_
        exact wX6_differs_177 C q0 q0_one q0_other q0_third q0_waysTo q0_poly q0_then q0_steps q0_sheet q0_next q0_wide q0_partOf q0_partTimes q0_foundAt q1 k0_isParted k0_parts k0_found p2 res rec38 hr38 (fX6_differs_L124 p2 rec38 n) ih k0_then k1 x3 x4 x5 x6 x7 x8 x9 x10 x11 ((x10 + (x11 * x3)) + ((((x9 + x8) - (1 : Int32)) - x11) * x4)) (k0_then (((x10 + (x11 * x3)) + ((((x9 + x8) - (1 : Int32)) - x11) * x4))).toNatClampNeg) (-(k1 (x5).toNatClampNeg)) _ _ ls hf hP hD hS (lv_sub hl [0, 1, 2, 3, 4, 5, 6, 7, 8, 9, 10, 11] rfl)
      · have hf := if_f hc hf
        refine lv_aload_n hx hb dX6_differs_165 rfl (lv_at hl 1 rfl) ?_
        refine lv_iload hx hb dX6_differs_166 (lv_at hl 5 rfl) ?_
        obtain ⟨hin, hf⟩ := gJ_use hf
        refine va_lald hx hb hG.1 hP 2 1 rfl rfl hin dX6_differs_168 ?_
        refine lv_goto (tgt := 177) hx hb dX6_differs_169 (by decide) ?_
        exact wX6_differs_177 C q0 q0_one q0_other q0_third q0_waysTo q0_poly q0_then q0_steps q0_sheet q0_next q0_wide q0_partOf q0_partTimes q0_foundAt q1 k0_isParted k0_parts k0_found p2 res rec38 hr38 (fX6_differs_L124 p2 rec38 n) ih k0_then k1 x3 x4 x5 x6 x7 x8 x9 x10 x11 ((x10 + (x11 * x3)) + ((((x9 + x8) - (1 : Int32)) - x11) * x4)) (k0_then (((x10 + (x11 * x3)) + ((((x9 + x8) - (1 : Int32)) - x11) * x4))).toNatClampNeg) (k1 (x5).toNatClampNeg) _ _ ls hf hP hD hS (lv_sub hl [0, 1, 2, 3, 4, 5, 6, 7, 8, 9, 10, 11] rfl)
set_option maxHeartbeats 4000000 in
set_option maxRecDepth 100000 in
theorem wX6_differs_103 {p : Program} {l : Launch} {e : Env} {s : State} {m : MethodId} {args : Array Value} {below : List Frame} {meth : Method} {c : Code} {G : GX} {A : Nat → Prop} (C : Cx p s m args meth c cX6_differs 12 none wsX6_differs RX6 G A) (q0 : Nat) (q0_one : Nat) (q0_other : Nat) (q0_third : Nat) (q0_waysTo : Nat) (q0_poly : Nat) (q0_then : Nat) (q0_steps : Nat) (q0_sheet : Nat) (q0_next : Nat) (q0_wide : Nat) (q0_partOf : Nat) (q0_partTimes : Nat) (q0_foundAt : Nat) (q1 : Nat) (k0_isParted : Int32) (k0_parts : Int32) (k0_found : Int32) (p2 : Int32) (res : (Nat → Int64) × (Nat → Int64)) (rec38 : (Nat → Int64) → (Nat → Int64) → Int32 → Int32 → Int32 → Option ((Nat → Int64) × (Nat → Int64))) (hr38 : ∀ (k0_then : Nat → Int64) (k1 : Nat → Int64) (x3 : Int32) (x4 : Int32) (x5 : Int32) (H : Heap) (locs : List Loc) (ls : Array Slot), rec38 k0_then k1 x3 x4 x5 = some res → va_P G.1 vwCl (wdX6_differs G q0 q0_one q0_other q0_third q0_waysTo q0_poly q0_then q0_steps q0_sheet q0_next q0_wide q0_partOf q0_partTimes q0_foundAt q1 k0_then k0_isParted k0_parts k0_found k1) H → va_D A (wdX6_differs G q0 q0_one q0_other q0_third q0_waysTo q0_poly q0_then q0_steps q0_sheet q0_next q0_wide q0_partOf q0_partTimes q0_foundAt q1 k0_then k0_isParted k0_parts k0_found k1) → va_S A s.heap H locs → lv_has ls 12 [(0, .ref q0), (1, .ref q1), (2, .int p2), (3, .int x3), (4, .int x4), (5, .int x5)] → glX6_differs p l e s m args below meth c G A q0 q0_one q0_other q0_third q0_waysTo q0_poly q0_then q0_steps q0_sheet q0_next q0_wide q0_partOf q0_partTimes q0_foundAt q1 k0_isParted k0_parts k0_found res H locs 38 ls []) : ∀ (k0_then : Nat → Int64) (k1 : Nat → Int64) (x3 : Int32) (x4 : Int32) (x5 : Int32) (x6 : Int32) (x7 : Int32) (x8 : Int32) (s0 : Int32) (H : Heap) (locs : List Loc) (ls : Array Slot), fX6_differs_b103 p2 rec38 k0_then k1 x3 x4 x5 x6 x7 x8 s0 = some res → va_P G.1 vwCl (wdX6_differs G q0 q0_one q0_other q0_third q0_waysTo q0_poly q0_then q0_steps q0_sheet q0_next q0_wide q0_partOf q0_partTimes q0_foundAt q1 k0_then k0_isParted k0_parts k0_found k1) H → va_D A (wdX6_differs G q0 q0_one q0_other q0_third q0_waysTo q0_poly q0_then q0_steps q0_sheet q0_next q0_wide q0_partOf q0_partTimes q0_foundAt q1 k0_then k0_isParted k0_parts k0_found k1) → va_S A s.heap H locs → lv_has ls 12 [(0, .ref q0), (1, .ref q1), (2, .int p2), (3, .int x3), (4, .int x4), (5, .int x5), (6, .int x6), (7, .int x7), (8, .int x8)] → glX6_differs p l e s m args below meth c G A q0 q0_one q0_other q0_third q0_waysTo q0_poly q0_then q0_steps q0_sheet q0_next q0_wide q0_partOf q0_partTimes q0_foundAt q1 k0_isParted k0_parts k0_found res H locs 103 ls [.int s0] := by
  obtain ⟨hx, hb, hml, hown, hts, hr, hlocks, hA, hG⟩ := id C
  intro k0_then k1 x3 x4 x5 x6 x7 x8 s0 H locs ls hf hP hD hS hl
  unfold fX6_differs_b103 at hf
  refine lv_istore (lv' := [(9, .int s0), (0, .ref q0), (1, .ref q1), (2, .int p2), (3, .int x3), (4, .int x4), (5, .int x5), (6, .int x6), (7, .int x7), (8, .int x8)]) hx hb dX6_differs_103 hl (by decide) rfl (fun ls hl => ?_)
  refine lv_iload hx hb dX6_differs_105 (lv_at hl 6 rfl) ?_
  refine lv_iload hx hb dX6_differs_107 (lv_at hl 7 rfl) ?_
  refine lv_iload_n hx hb dX6_differs_109 rfl (lv_at hl 4 rfl) ?_
  refine lv_imul hx hb dX6_differs_110 ?_
  refine lv_isub hx hb dX6_differs_111 ?_
  refine lv_iload hx hb dX6_differs_112 (lv_at hl 8 rfl) ?_
  refine lv_iload hx hb dX6_differs_114 (lv_at hl 5 rfl) ?_
  refine lv_imul hx hb dX6_differs_116 ?_
  refine lv_isub hx hb dX6_differs_117 ?_
  refine lv_topi (fun y10 ey10 => ?_)
  have hf := nm_use ey10 hf
  refine lv_istore (lv' := [(10, .int y10), (9, .int s0), (0, .ref q0), (1, .ref q1), (2, .int p2), (3, .int x3), (4, .int x4), (5, .int x5), (6, .int x6), (7, .int x7), (8, .int x8)]) hx hb dX6_differs_118 hl (by decide) rfl (fun ls hl => ?_)
  refine lv_iload hx hb dX6_differs_120 (lv_at hl 10 rfl) ?_
  refine lv_istore (lv' := [(11, .int x8), (10, .int y10), (9, .int s0), (0, .ref q0), (1, .ref q1), (2, .int p2), (3, .int x3), (4, .int x4), (5, .int x5), (6, .int x6), (7, .int x7), (8, .int x8)]) hx hb dX6_differs_122 hl (by decide) rfl (fun ls hl => ?_)
  exact wX6_differs_124 C q0 q0_one q0_other q0_third q0_waysTo q0_poly q0_then q0_steps q0_sheet q0_next q0_wide q0_partOf q0_partTimes q0_foundAt q1 k0_isParted k0_parts k0_found p2 res rec38 hr38 fu k0_then k1 x3 x4 x5 x6 x7 x8 s0 y10 x8 _ _ ls hf hP hD hS (lv_sub hl [3, 4, 5, 6, 7, 8, 9, 10, 11, 2, 1, 0] rfl)
set_option maxHeartbeats 4000000 in
set_option maxRecDepth 100000 in
theorem wX6_differs_87 {p : Program} {l : Launch} {e : Env} {s : State} {m : MethodId} {args : Array Value} {below : List Frame} {meth : Method} {c : Code} {G : GX} {A : Nat → Prop} (C : Cx p s m args meth c cX6_differs 12 none wsX6_differs RX6 G A) (q0 : Nat) (q0_one : Nat) (q0_other : Nat) (q0_third : Nat) (q0_waysTo : Nat) (q0_poly : Nat) (q0_then : Nat) (q0_steps : Nat) (q0_sheet : Nat) (q0_next : Nat) (q0_wide : Nat) (q0_partOf : Nat) (q0_partTimes : Nat) (q0_foundAt : Nat) (q1 : Nat) (k0_isParted : Int32) (k0_parts : Int32) (k0_found : Int32) (p2 : Int32) (res : (Nat → Int64) × (Nat → Int64)) (rec38 : (Nat → Int64) → (Nat → Int64) → Int32 → Int32 → Int32 → Option ((Nat → Int64) × (Nat → Int64))) (hr38 : ∀ (k0_then : Nat → Int64) (k1 : Nat → Int64) (x3 : Int32) (x4 : Int32) (x5 : Int32) (H : Heap) (locs : List Loc) (ls : Array Slot), rec38 k0_then k1 x3 x4 x5 = some res → va_P G.1 vwCl (wdX6_differs G q0 q0_one q0_other q0_third q0_waysTo q0_poly q0_then q0_steps q0_sheet q0_next q0_wide q0_partOf q0_partTimes q0_foundAt q1 k0_then k0_isParted k0_parts k0_found k1) H → va_D A (wdX6_differs G q0 q0_one q0_other q0_third q0_waysTo q0_poly q0_then q0_steps q0_sheet q0_next q0_wide q0_partOf q0_partTimes q0_foundAt q1 k0_then k0_isParted k0_parts k0_found k1) → va_S A s.heap H locs → lv_has ls 12 [(0, .ref q0), (1, .ref q1), (2, .int p2), (3, .int x3), (4, .int x4), (5, .int x5)] → glX6_differs p l e s m args below meth c G A q0 q0_one q0_other q0_third q0_waysTo q0_poly q0_then q0_steps q0_sheet q0_next q0_wide q0_partOf q0_partTimes q0_foundAt q1 k0_isParted k0_parts k0_found res H locs 38 ls []) : ∀ (k0_then : Nat → Int64) (k1 : Nat → Int64) (x3 : Int32) (x4 : Int32) (x5 : Int32) (x6 : Int32) (x7 : Int32) (s0 : Int32) (H : Heap) (locs : List Loc) (ls : Array Slot), fX6_differs_b87 p2 rec38 k0_then k1 x3 x4 x5 x6 x7 s0 = some res → va_P G.1 vwCl (wdX6_differs G q0 q0_one q0_other q0_third q0_waysTo q0_poly q0_then q0_steps q0_sheet q0_next q0_wide q0_partOf q0_partTimes q0_foundAt q1 k0_then k0_isParted k0_parts k0_found k1) H → va_D A (wdX6_differs G q0 q0_one q0_other q0_third q0_waysTo q0_poly q0_then q0_steps q0_sheet q0_next q0_wide q0_partOf q0_partTimes q0_foundAt q1 k0_then k0_isParted k0_parts k0_found k1) → va_S A s.heap H locs → lv_has ls 12 [(0, .ref q0), (1, .ref q1), (2, .int p2), (3, .int x3), (4, .int x4), (5, .int x5), (6, .int x6), (7, .int x7)] → glX6_differs p l e s m args below meth c G A q0 q0_one q0_other q0_third q0_waysTo q0_poly q0_then q0_steps q0_sheet q0_next q0_wide q0_partOf q0_partTimes q0_foundAt q1 k0_isParted k0_parts k0_found res H locs 87 ls [.int s0] := by
  obtain ⟨hx, hb, hml, hown, hts, hr, hlocks, hA, hG⟩ := id C
  intro k0_then k1 x3 x4 x5 x6 x7 s0 H locs ls hf hP hD hS hl
  unfold fX6_differs_b87 at hf
  refine lv_istore (lv' := [(8, .int s0), (0, .ref q0), (1, .ref q1), (2, .int p2), (3, .int x3), (4, .int x4), (5, .int x5), (6, .int x6), (7, .int x7)]) hx hb dX6_differs_87 hl (by decide) rfl (fun ls hl => ?_)
  refine lv_iload hx hb dX6_differs_89 (lv_at hl 7 rfl) ?_
  refine lv_iload hx hb dX6_differs_91 (lv_at hl 8 rfl) ?_
  refine lv_icmp_ge (tgt := 101) hx hb dX6_differs_93 (by decide) (fun hc => ?_) (fun hc => ?_)
  · have hf := if_t hc hf
    refine lv_iload hx hb dX6_differs_101 (lv_at hl 7 rfl) ?_
    exact wX6_differs_103 C q0 q0_one q0_other q0_third q0_waysTo q0_poly q0_then q0_steps q0_sheet q0_next q0_wide q0_partOf q0_partTimes q0_foundAt q1 k0_isParted k0_parts k0_found p2 res rec38 hr38 k0_then k1 x3 x4 x5 x6 x7 s0 x6 _ _ ls hf hP hD hS (lv_sub hl [1, 2, 3, 4, 5, 6, 7, 8, 0] rfl)
  · have hf := if_f hc hf
    refine lv_iload hx hb dX6_differs_96 (lv_at hl 8 rfl) ?_
    refine lv_goto (tgt := 103) hx hb dX6_differs_98 (by decide) ?_
    exact wX6_differs_103 C q0 q0_one q0_other q0_third q0_waysTo q0_poly q0_then q0_steps q0_sheet q0_next q0_wide q0_partOf q0_partTimes q0_foundAt q1 k0_isParted k0_parts k0_found p2 res rec38 hr38 k0_then k1 x3 x4 x5 x6 x7 s0 x7 _ _ ls hf hP hD hS (lv_sub hl [1, 2, 3, 4, 5, 6, 7, 8, 0] rfl)
set_option maxHeartbeats 4000000 in
set_option maxRecDepth 100000 in
theorem wX6_differs_38 {p : Program} {l : Launch} {e : Env} {s : State} {m : MethodId} {args : Array Value} {below : List Frame} {meth : Method} {c : Code} {G : GX} {A : Nat → Prop} (C : Cx p s m args meth c cX6_differs 12 none wsX6_differs RX6 G A) (q0 : Nat) (q0_one : Nat) (q0_other : Nat) (q0_third : Nat) (q0_waysTo : Nat) (q0_poly : Nat) (q0_then : Nat) (q0_steps : Nat) (q0_sheet : Nat) (q0_next : Nat) (q0_wide : Nat) (q0_partOf : Nat) (q0_partTimes : Nat) (q0_foundAt : Nat) (q1 : Nat) (k0_isParted : Int32) (k0_parts : Int32) (k0_found : Int32) (p2 : Int32) (res : (Nat → Int64) × (Nat → Int64)) (n : Nat) : ∀ (k0_then : Nat → Int64) (k1 : Nat → Int64) (x3 : Int32) (x4 : Int32) (x5 : Int32) (H : Heap) (locs : List Loc) (ls : Array Slot), fX6_differs_L38 p2 n k0_then k1 x3 x4 x5 = some res → va_P G.1 vwCl (wdX6_differs G q0 q0_one q0_other q0_third q0_waysTo q0_poly q0_then q0_steps q0_sheet q0_next q0_wide q0_partOf q0_partTimes q0_foundAt q1 k0_then k0_isParted k0_parts k0_found k1) H → va_D A (wdX6_differs G q0 q0_one q0_other q0_third q0_waysTo q0_poly q0_then q0_steps q0_sheet q0_next q0_wide q0_partOf q0_partTimes q0_foundAt q1 k0_then k0_isParted k0_parts k0_found k1) → va_S A s.heap H locs → lv_has ls 12 [(0, .ref q0), (1, .ref q1), (2, .int p2), (3, .int x3), (4, .int x4), (5, .int x5)] → glX6_differs p l e s m args below meth c G A q0 q0_one q0_other q0_third q0_waysTo q0_poly q0_then q0_steps q0_sheet q0_next q0_wide q0_partOf q0_partTimes q0_foundAt q1 k0_isParted k0_parts k0_found res H locs 38 ls [] := by
  obtain ⟨hx, hb, hml, hown, hts, hr, hlocks, hA, hG⟩ := id C
  induction n with
  | zero => intro k0_then k1 x3 x4 x5 H locs ls hf hP hD hS hl; cases hf
  | succ n ih =>
    intro k0_then k1 x3 x4 x5 H locs ls hf hP hD hS hl
    simp only [fX6_differs_L38] at hf
    refine lv_iload hx hb dX6_differs_38 (lv_at hl 5 rfl) ?_
    refine lv_sipush (v := (3024 : Int32)) hx hb dX6_differs_40 (by decide) ?_
    refine lv_icmp_ge (tgt := 191) hx hb dX6_differs_43 (by decide) (fun hc => ?_) (fun hc => ?_)
    · have hf := if_t hc hf
      refine lv_iconst (v := (0 : Int32)) hx hb dX6_differs_191 (by decide) ?_
      refine lv_istore (lv' := [(5, .int (0 : Int32)), (0, .ref q0), (1, .ref q1), (2, .int p2), (3, .int x3), (4, .int x4)]) hx hb dX6_differs_192 hl (by decide) rfl (fun ls hl => ?_)
      exact wX6_differs_194 C q0 q0_one q0_other q0_third q0_waysTo q0_poly q0_then q0_steps q0_sheet q0_next q0_wide q0_partOf q0_partTimes q0_foundAt q1 k0_isParted k0_parts k0_found p2 res fu k0_then k1 (0 : Int32) _ _ ls hf hP hD hS (lv_sub hl [1, 2, 0] rfl)
    · have hf := if_f hc hf
      refine lv_aload_n hx hb dX6_differs_46 rfl (lv_at hl 1 rfl) ?_
      refine lv_iload hx hb dX6_differs_47 (lv_at hl 5 rfl) ?_
      obtain ⟨hin, hf⟩ := gJ_use hf
      refine va_lald hx hb hG.1 hP 2 1 rfl rfl hin dX6_differs_49 ?_
      refine lv_lconst (v := (0 : Int64)) hx hb dX6_differs_50 (by decide) ?_
      refine W.lcmp hx hb dX6_differs_51 ?_
      refine lv_if_eq (tgt := 185) hx hb dX6_differs_52 (by decide) (fun hc => ?_) (fun hc => ?_)
      · have hf := if_t hc hf
        obtain ⟨y12, ey12⟩ : ∃ z : Int32, z = x5 + (1 : Int32) := ⟨_, rfl⟩
        have hf := nm_use ey12 hf
        refine lv_iinc (v := y12) (lv' := [(5, .int y12), (0, .ref q0), (1, .ref q1), (2, .int p2), (3, .int x3), (4, .int x4)]) hx hb dX6_differs_185 hl (k := 5) rfl (by rw [ey12]; rfl) (by decide) rfl (fun ls hl => ?_)
        refine lv_goto (tgt := 38) hx hb dX6_differs_188 (by decide) ?_
        exact ih k0_then k1 x3 x4 y12 _ _ ls hf hP hD hS (lv_sub hl [1, 2, 3, 4, 5, 0] rfl)
      · have hf := if_f hc hf
        refine lv_iload hx hb dX6_differs_55 (lv_at hl 5 rfl) ?_
        refine lv_iload_n hx hb dX6_differs_57 rfl (lv_at hl 2 rfl) ?_
        obtain ⟨r13, hr13, hf⟩ := bd_use hf
        refine cl_S (wn := (wdX6_differs G q0 q0_one q0_other q0_third q0_waysTo q0_poly q0_then q0_steps q0_sheet q0_next q0_wide q0_partOf q0_partTimes q0_foundAt q1 k0_then k0_isParted k0_parts k0_found k1)) (st1 := [.int r13]) C hP hD hS (tX6_exponentAt l G x5 p2 r13 hr13) (va_cwS 2 hts gX6_differs_X6_exponentAt rfl rfl rfl (by decide +kernel) ⟨Nat.le_of_ble_eq_true rfl, Nat.le_of_ble_eq_true rfl⟩) [] [0, 1, 2] [0, 1, 2] rfl rfl rfl rfl (by decide) rfl rfl rfl hl.1 rfl rfl (Nat.le_of_ble_eq_true rfl) dX6_differs_58 (fun H locs hP hD hS => ?_)
        refine lv_istore (lv' := [(6, .int r13), (0, .ref q0), (1, .ref q1), (2, .int p2), (3, .int x3), (4, .int x4), (5, .int x5)]) hx hb dX6_differs_61 hl (by decide) rfl (fun ls hl => ?_)
        refine lv_iload hx hb dX6_differs_63 (lv_at hl 6 rfl) ?_
        refine lv_iload_n hx hb dX6_differs_65 rfl (lv_at hl 3 rfl) ?_
        refine lv_iconst (v := (1 : Int32)) hx hb dX6_differs_66 (by decide) ?_
        refine lv_iadd hx hb dX6_differs_67 ?_
        obtain ⟨r14, hr14, hf⟩ := bd_use hf
        refine cl_S (wn := (wdX6_differs G q0 q0_one q0_other q0_third q0_waysTo q0_poly q0_then q0_steps q0_sheet q0_next q0_wide q0_partOf q0_partTimes q0_foundAt q1 k0_then k0_isParted k0_parts k0_found k1)) (st1 := [.int r14]) C hP hD hS (tX6_exponentAt l G x5 (p2 + (1 : Int32)) r14 hr14) (va_cwS 2 hts gX6_differs_X6_exponentAt rfl rfl rfl (by decide +kernel) ⟨Nat.le_of_ble_eq_true rfl, Nat.le_of_ble_eq_true rfl⟩) [] [0, 1, 2] [0, 1, 2] rfl rfl rfl rfl (by decide) rfl rfl rfl hl.1 rfl rfl (Nat.le_of_ble_eq_true rfl) dX6_differs_68 (fun H locs hP hD hS => ?_)
        refine lv_istore (lv' := [(7, .int r14), (6, .int r13), (0, .ref q0), (1, .ref q1), (2, .int p2), (3, .int x3), (4, .int x4), (5, .int x5)]) hx hb dX6_differs_71 hl (by decide) rfl (fun ls hl => ?_)
        refine lv_iload hx hb dX6_differs_73 (lv_at hl 1 rfl) ?_
        refine lv_iload hx hb dX6_differs_75 (lv_at hl 0 rfl) ?_
        refine lv_icmp_ge (tgt := 85) hx hb dX6_differs_77 (by decide) (fun hc => ?_) (fun hc => ?_)
        · have hf := if_t hc hf
          refine lv_iload hx hb dX6_differs_85 (lv_at hl 0 rfl) ?_
          exact wX6_differs_87 C q0 q0_one q0_other q0_third q0_waysTo q0_poly q0_then q0_steps q0_sheet q0_next q0_wide q0_partOf q0_partTimes q0_foundAt q1 k0_isParted k0_parts k0_found p2 res (fX6_differs_L38 p2 n) ih k0_then k1 x3 x4 x5 r13 r14 r14 _ _ ls hf hP hD hS (lv_sub hl [2, 3, 4, 5, 6, 7, 1, 0] rfl)
        · have hf := if_f hc hf
          refine lv_iload hx hb dX6_differs_80 (lv_at hl 1 rfl) ?_
          refine lv_goto (tgt := 87) hx hb dX6_differs_82 (by decide) ?_
          exact wX6_differs_87 C q0 q0_one q0_other q0_third q0_waysTo q0_poly q0_then q0_steps q0_sheet q0_next q0_wide q0_partOf q0_partTimes q0_foundAt q1 k0_isParted k0_parts k0_found p2 res (fX6_differs_L38 p2 n) ih k0_then k1 x3 x4 x5 r13 r14 r13 _ _ ls hf hP hD hS (lv_sub hl [2, 3, 4, 5, 6, 7, 1, 0] rfl)
set_option maxHeartbeats 4000000 in
set_option maxRecDepth 100000 in
theorem wX6_differs_2 {p : Program} {l : Launch} {e : Env} {s : State} {m : MethodId} {args : Array Value} {below : List Frame} {meth : Method} {c : Code} {G : GX} {A : Nat → Prop} (C : Cx p s m args meth c cX6_differs 12 none wsX6_differs RX6 G A) (q0 : Nat) (q0_one : Nat) (q0_other : Nat) (q0_third : Nat) (q0_waysTo : Nat) (q0_poly : Nat) (q0_then : Nat) (q0_steps : Nat) (q0_sheet : Nat) (q0_next : Nat) (q0_wide : Nat) (q0_partOf : Nat) (q0_partTimes : Nat) (q0_foundAt : Nat) (q1 : Nat) (k0_isParted : Int32) (k0_parts : Int32) (k0_found : Int32) (p2 : Int32) (res : (Nat → Int64) × (Nat → Int64)) (n : Nat) : ∀ (k0_then : Nat → Int64) (k1 : Nat → Int64) (x3 : Int32) (H : Heap) (locs : List Loc) (ls : Array Slot), fX6_differs_L2 p2 n k0_then k1 x3 = some res → va_P G.1 vwCl (wdX6_differs G q0 q0_one q0_other q0_third q0_waysTo q0_poly q0_then q0_steps q0_sheet q0_next q0_wide q0_partOf q0_partTimes q0_foundAt q1 k0_then k0_isParted k0_parts k0_found k1) H → va_D A (wdX6_differs G q0 q0_one q0_other q0_third q0_waysTo q0_poly q0_then q0_steps q0_sheet q0_next q0_wide q0_partOf q0_partTimes q0_foundAt q1 k0_then k0_isParted k0_parts k0_found k1) → va_S A s.heap H locs → lv_has ls 12 [(0, .ref q0), (1, .ref q1), (2, .int p2), (3, .int x3)] → glX6_differs p l e s m args below meth c G A q0 q0_one q0_other q0_third q0_waysTo q0_poly q0_then q0_steps q0_sheet q0_next q0_wide q0_partOf q0_partTimes q0_foundAt q1 k0_isParted k0_parts k0_found res H locs 2 ls [] := by
  obtain ⟨hx, hb, hml, hown, hts, hr, hlocks, hA, hG⟩ := id C
  induction n with
  | zero => intro k0_then k1 x3 H locs ls hf hP hD hS hl; cases hf
  | succ n ih =>
    intro k0_then k1 x3 H locs ls hf hP hD hS hl
    simp only [fX6_differs_L2] at hf
    refine lv_iload_n hx hb dX6_differs_2 rfl (lv_at hl 3 rfl) ?_
    refine lv_sipush (v := (3024 : Int32)) hx hb dX6_differs_3 (by decide) ?_
    refine lv_icmp_ge (tgt := 22) hx hb dX6_differs_6 (by decide) (fun hc => ?_) (fun hc => ?_)
    · have hf := if_t hc hf
      refine lv_iload_n hx hb dX6_differs_22 rfl (lv_at hl 2 rfl) ?_
      obtain ⟨r15, hr15, hf⟩ := bd_use hf
      refine cl_S (wn := (wdX6_differs G q0 q0_one q0_other q0_third q0_waysTo q0_poly q0_then q0_steps q0_sheet q0_next q0_wide q0_partOf q0_partTimes q0_foundAt q1 k0_then k0_isParted k0_parts k0_found k1)) (st1 := [.int r15]) C hP hD hS (tX6_strideOf l G p2 r15 hr15) (va_cwS 1 hts gX6_differs_X6_strideOf rfl rfl rfl (by decide +kernel) ⟨Nat.le_of_ble_eq_true rfl, Nat.le_of_ble_eq_true rfl⟩) [] [0, 1, 2] [0, 1, 2] rfl rfl rfl rfl (by decide) rfl rfl rfl hl.1 rfl rfl (Nat.le_of_ble_eq_true rfl) dX6_differs_23 (fun H locs hP hD hS => ?_)
      refine lv_istore_n (lv' := [(3, .int r15), (0, .ref q0), (1, .ref q1), (2, .int p2)]) hx hb dX6_differs_26 rfl hl (by decide) rfl (fun ls hl => ?_)
      refine lv_iload_n hx hb dX6_differs_27 rfl (lv_at hl 3 rfl) ?_
      refine lv_iconst (v := (1 : Int32)) hx hb dX6_differs_28 (by decide) ?_
      refine lv_iadd hx hb dX6_differs_29 ?_
      obtain ⟨r16, hr16, hf⟩ := bd_use hf
      refine cl_S (wn := (wdX6_differs G q0 q0_one q0_other q0_third q0_waysTo q0_poly q0_then q0_steps q0_sheet q0_next q0_wide q0_partOf q0_partTimes q0_foundAt q1 k0_then k0_isParted k0_parts k0_found k1)) (st1 := [.int r16]) C hP hD hS (tX6_strideOf l G (p2 + (1 : Int32)) r16 hr16) (va_cwS 1 hts gX6_differs_X6_strideOf rfl rfl rfl (by decide +kernel) ⟨Nat.le_of_ble_eq_true rfl, Nat.le_of_ble_eq_true rfl⟩) [] [0, 1, 2] [0, 1, 2] rfl rfl rfl rfl (by decide) rfl rfl rfl hl.1 rfl rfl (Nat.le_of_ble_eq_true rfl) dX6_differs_30 (fun H locs hP hD hS => ?_)
      refine lv_istore (lv' := [(4, .int r16), (3, .int r15), (0, .ref q0), (1, .ref q1), (2, .int p2)]) hx hb dX6_differs_33 hl (by decide) rfl (fun ls hl => ?_)
      refine lv_iconst (v := (0 : Int32)) hx hb dX6_differs_35 (by decide) ?_
      refine lv_istore (lv' := [(5, .int (0 : Int32)), (4, .int r16), (3, .int r15), (0, .ref q0), (1, .ref q1), (2, .int p2)]) hx hb dX6_differs_36 hl (by decide) rfl (fun ls hl => ?_)
      exact wX6_differs_38 C q0 q0_one q0_other q0_third q0_waysTo q0_poly q0_then q0_steps q0_sheet q0_next q0_wide q0_partOf q0_partTimes q0_foundAt q1 k0_isParted k0_parts k0_found p2 res fu k0_then k1 r15 r16 (0 : Int32) _ _ ls hf hP hD hS (lv_sub hl [3, 4, 5, 2, 1, 0] rfl)
    · have hf := if_f hc hf
      refine lv_aload_n hx hb dX6_differs_9 rfl (lv_at hl 0 rfl) ?_
      refine va_get (D := G.1) (ci := 6) (v := .ref q0_then) (C := RX6) (T := TX6) (N := 16) hx hb hts nX6_differs_X6 hown hG.1 hP 0 rfl rfl 5 (by decide) (hts _ mX6_differs_0) (fun _ h9 => h9) rfl dX6_differs_10 ?_
      refine lv_iload_n hx hb dX6_differs_13 rfl (lv_at hl 3 rfl) ?_
      refine lv_lconst (v := (0 : Int64)) hx hb dX6_differs_14 (by decide) ?_
      obtain ⟨hin, hf⟩ := pJ_use hf
      refine va_last hx hb hG.1 hP hD hS 1 1 rfl rfl hin dX6_differs_15 (fun H locs hP hD hS => ?_)
      have hP : va_P G.1 vwCl (wdX6_differs G q0 q0_one q0_other q0_third q0_waysTo q0_poly q0_then q0_steps q0_sheet q0_next q0_wide q0_partOf q0_partTimes q0_foundAt q1 (vp_updL k0_then (x3).toNatClampNeg (0 : Int64)) k0_isParted k0_parts k0_found k1) H := hP
      have hD : va_D A (wdX6_differs G q0 q0_one q0_other q0_third q0_waysTo q0_poly q0_then q0_steps q0_sheet q0_next q0_wide q0_partOf q0_partTimes q0_foundAt q1 (vp_updL k0_then (x3).toNatClampNeg (0 : Int64)) k0_isParted k0_parts k0_found k1) := hD
      obtain ⟨y18, ey18⟩ : ∃ z : Int32, z = x3 + (1 : Int32) := ⟨_, rfl⟩
      have hf := nm_use ey18 hf
      refine lv_iinc (v := y18) (lv' := [(3, .int y18), (0, .ref q0), (1, .ref q1), (2, .int p2)]) hx hb dX6_differs_16 hl (k := 3) rfl (by rw [ey18]; rfl) (by decide) rfl (fun ls hl => ?_)
      refine lv_goto (tgt := 2) hx hb dX6_differs_19 (by decide) ?_
      exact ih (vp_updL k0_then (x3).toNatClampNeg (0 : Int64)) k1 y18 _ _ ls hf hP hD hS (lv_sub hl [1, 2, 3, 0] rfl)
set_option maxHeartbeats 4000000 in
set_option maxRecDepth 100000 in
theorem tX6_differs (l : Launch) (G : GX) (q0 : Nat) (q0_one : Nat) (q0_other : Nat) (q0_third : Nat) (q0_waysTo : Nat) (q0_poly : Nat) (q0_then : Nat) (q0_steps : Nat) (q0_sheet : Nat) (q0_next : Nat) (q0_wide : Nat) (q0_partOf : Nat) (q0_partTimes : Nat) (q0_foundAt : Nat) (q1 : Nat) (k0_then : Nat → Int64) (k0_isParted : Int32) (k0_parts : Int32) (k0_found : Int32) (k1 : Nat → Int64) (p2 : Int32) (res : (Nat → Int64) × (Nat → Int64)) (hf : fX6_differs k0_then k1 p2 = some res) : Ct l yX6_differs wsX6_differs rmX6_differs G [.ref q0, .ref q1, .int p2] (wdX6_differs G q0 q0_one q0_other q0_third q0_waysTo q0_poly q0_then q0_steps q0_sheet q0_next q0_wide q0_partOf q0_partTimes q0_foundAt q1 k0_then k0_isParted k0_parts k0_found k1) (wdX6_differs G q0 q0_one q0_other q0_third q0_waysTo q0_poly q0_then q0_steps q0_sheet q0_next q0_wide q0_partOf q0_partTimes q0_foundAt q1 res.1 k0_isParted k0_parts k0_found res.2) none := by
  refine Ct.of (cc := cX6_differs) (nL := 12) (ret := none) (by decide) rfl (Nat.le_of_ble_eq_true rfl) rfl ?_
  intro p e s m below meth c A ls C hP hD hl
  obtain ⟨hx, hb, hml, hown, hts, hr, hlocks, hA, hG⟩ := id C
  have hS : va_S A s.heap s.heap [] := va_S.rf
  unfold fX6_differs at hf
  refine lv_iconst (v := (0 : Int32)) hx hb dX6_differs_0 (by decide) ?_
  refine lv_istore_n (lv' := [(3, .int (0 : Int32)), (0, .ref q0), (1, .ref q1), (2, .int p2)]) hx hb dX6_differs_1 rfl hl (by decide) rfl (fun ls hl => ?_)
  exact wX6_differs_2 C q0 q0_one q0_other q0_third q0_waysTo q0_poly q0_then q0_steps q0_sheet q0_next q0_wide q0_partOf q0_partTimes q0_foundAt q1 k0_isParted k0_parts k0_found p2 res fu k0_then k1 (0 : Int32) _ _ ls hf hP hD hS (lv_sub hl [1, 2, 3, 0] rfl)
abbrev wdX6_findS (G : GX) (q0 : Nat) (q0_one : Nat) (q0_other : Nat) (q0_third : Nat) (q0_waysTo : Nat) (q0_poly : Nat) (q0_then : Nat) (q0_steps : Nat) (q0_sheet : Nat) (q0_next : Nat) (q0_wide : Nat) (q0_partOf : Nat) (q0_partTimes : Nat) (q0_foundAt : Nat) (q1 : Nat) (k0_poly : Nat → Int64) (k0_then : Nat → Int64) (k0_steps : Nat → Int32) (k0_isParted : Int32) (k0_parts : Int32) (k0_found : Int32) (k1 : Nat → Int32) : va_W := [(q0, .inr (6, [.ref q0_one, .ref q0_other, .ref q0_third, .ref q0_waysTo, .ref q0_poly, .ref q0_then, .ref q0_steps, .ref q0_sheet, .ref q0_next, .int k0_isParted, .ref q0_wide, .int k0_parts, .ref q0_partOf, .ref q0_partTimes, .int k0_found, .ref q0_foundAt])), (q0_poly, .inl (G.2.2.1, 3024, .inr (.inl k0_poly))), (q0_then, .inl (G.2.2.1, 3024, .inr (.inl k0_then))), (q0_steps, .inl (G.2.1, 64, .inl k0_steps)), (q1, .inl (G.2.1, 10, .inl k1))]
abbrev rmX6_findS : Room := { frames := 2, cells := 0, slots := 0, locals := 52 }
abbrev glX6_findS (p : Program) (l : Launch) (e : Env) (s : State) (m : MethodId) (args : Array Value) (below : List Frame) (meth : Method) (c : Code) (G : GX) (A : Nat → Prop) (q0 : Nat) (q0_one : Nat) (q0_other : Nat) (q0_third : Nat) (q0_waysTo : Nat) (q0_poly : Nat) (q0_then : Nat) (q0_steps : Nat) (q0_sheet : Nat) (q0_next : Nat) (q0_wide : Nat) (q0_partOf : Nat) (q0_partTimes : Nat) (q0_foundAt : Nat) (q1 : Nat) (k0_isParted : Int32) (k0_parts : Int32) (k0_found : Int32) (res : (Nat → Int64) × (Nat → Int64) × (Nat → Int32) × (Nat → Int32)) (H : Heap) (locs : List Loc) (pc : Nat) (ls : Array Slot) (st : List Value) : Prop := W p l e rmX6_findS s m args below meth c H locs 0 0 (MQ below (ctQ G A (wdX6_findS G q0 q0_one q0_other q0_third q0_waysTo q0_poly q0_then q0_steps q0_sheet q0_next q0_wide q0_partOf q0_partTimes q0_foundAt q1 res.1 res.2.1 res.2.2.1 k0_isParted k0_parts k0_found res.2.2.2) none) args s 0 0 A) (F0 m pc ls st)
set_option maxRecDepth 20000 in
theorem mX6_findS_0 : Cond.fieldLink RX6 22 "SchubertDeskModel" "poly" "[J" ∈ wsX6_findS := by decide +kernel
set_option maxRecDepth 20000 in
theorem mX6_findS_1 : Cond.fieldLink RX6 29 "SchubertDeskModel" "steps" "[I" ∈ wsX6_findS := by decide +kernel
set_option maxRecDepth 20000 in
theorem nX6_findS_X6 : ∀ w ∈ u_ws RX6 TX6 16, w ∈ wsX6_findS := by decide +kernel
set_option maxHeartbeats 4000000 in
set_option maxRecDepth 100000 in
theorem wX6_findS_112 {p : Program} {l : Launch} {e : Env} {s : State} {m : MethodId} {args : Array Value} {below : List Frame} {meth : Method} {c : Code} {G : GX} {A : Nat → Prop} (C : Cx p s m args meth c cX6_findS 5 none wsX6_findS RX6 G A) (q0 : Nat) (q0_one : Nat) (q0_other : Nat) (q0_third : Nat) (q0_waysTo : Nat) (q0_poly : Nat) (q0_then : Nat) (q0_steps : Nat) (q0_sheet : Nat) (q0_next : Nat) (q0_wide : Nat) (q0_partOf : Nat) (q0_partTimes : Nat) (q0_foundAt : Nat) (q1 : Nat) (k0_isParted : Int32) (k0_parts : Int32) (k0_found : Int32) (res : (Nat → Int64) × (Nat → Int64) × (Nat → Int32) × (Nat → Int32)) (n : Nat) : ∀ (k0_poly : Nat → Int64) (k0_then : Nat → Int64) (k0_steps : Nat → Int32) (k1 : Nat → Int32) (x4 : Int32) (H : Heap) (locs : List Loc) (ls : Array Slot), fX6_findS_L112 n k0_poly k0_then k0_steps k1 x4 = some res → va_P G.1 vwCl (wdX6_findS G q0 q0_one q0_other q0_third q0_waysTo q0_poly q0_then q0_steps q0_sheet q0_next q0_wide q0_partOf q0_partTimes q0_foundAt q1 k0_poly k0_then k0_steps k0_isParted k0_parts k0_found k1) H → va_D A (wdX6_findS G q0 q0_one q0_other q0_third q0_waysTo q0_poly q0_then q0_steps q0_sheet q0_next q0_wide q0_partOf q0_partTimes q0_foundAt q1 k0_poly k0_then k0_steps k0_isParted k0_parts k0_found k1) → va_S A s.heap H locs → lv_has ls 5 [(0, .ref q0), (4, .int x4)] → glX6_findS p l e s m args below meth c G A q0 q0_one q0_other q0_third q0_waysTo q0_poly q0_then q0_steps q0_sheet q0_next q0_wide q0_partOf q0_partTimes q0_foundAt q1 k0_isParted k0_parts k0_found res H locs 112 ls [] := by
  obtain ⟨hx, hb, hml, hown, hts, hr, hlocks, hA, hG⟩ := id C
  induction n with
  | zero => intro k0_poly k0_then k0_steps k1 x4 H locs ls hf hP hD hS hl; cases hf
  | succ n ih =>
    intro k0_poly k0_then k0_steps k1 x4 H locs ls hf hP hD hS hl
    simp only [fX6_findS_L112] at hf
    refine lv_iload hx hb dX6_findS_112 (lv_at hl 1 rfl) ?_
    refine lv_if_lt (tgt := 138) hx hb dX6_findS_114 (by decide) (fun hc => ?_) (fun hc => ?_)
    · have hf := if_t hc hf
      cases hf
      exact rt_v C hP hD hS dX6_findS_138
    · have hf := if_f hc hf
      refine lv_aload_n hx hb dX6_findS_117 rfl (lv_at hl 0 rfl) ?_
      refine lv_aload_n hx hb dX6_findS_118 rfl (lv_at hl 0 rfl) ?_
      refine va_get (D := G.1) (ci := 6) (v := .ref q0_poly) (C := RX6) (T := TX6) (N := 16) hx hb hts nX6_findS_X6 hown hG.1 hP 0 rfl rfl 4 (by decide) (hts _ mX6_findS_0) (fun _ h9 => h9) rfl dX6_findS_119 ?_
      refine lv_aload_n hx hb dX6_findS_122 rfl (lv_at hl 0 rfl) ?_
      refine va_get (D := G.1) (ci := 6) (v := .ref q0_steps) (C := RX6) (T := TX6) (N := 16) hx hb hts nX6_findS_X6 hown hG.1 hP 0 rfl rfl 6 (by decide) (hts _ mX6_findS_1) (fun _ h9 => h9) rfl dX6_findS_123 ?_
      refine lv_iload hx hb dX6_findS_126 (lv_at hl 1 rfl) ?_
      obtain ⟨hin, hf⟩ := gI_use hf
      refine va_iald hx hb hG.1 hP 3 0 rfl rfl hin dX6_findS_128 ?_
      obtain ⟨r2, hr2, hf⟩ := bd_use hf
      refine cl_V (wn := (wdX6_findS G q0 q0_one q0_other q0_third q0_waysTo q0_poly q0_then q0_steps q0_sheet q0_next q0_wide q0_partOf q0_partTimes q0_foundAt q1 r2.2 r2.1 k0_steps k0_isParted k0_parts k0_found k1)) (st1 := []) C hP hD hS (tX6_differs l G q0 q0_one q0_other q0_third q0_waysTo q0_poly q0_then q0_steps q0_sheet q0_next q0_wide q0_partOf q0_partTimes q0_foundAt q0_poly k0_then k0_isParted k0_parts k0_found k0_poly (k0_steps (x4).toNatClampNeg) r2 hr2) (cwV 2 hts gX6_findS_X6_differs rfl rfl rfl (by decide +kernel) ⟨Nat.le_of_ble_eq_true rfl, Nat.le_of_ble_eq_true rfl⟩) [0, 2, 1] [3, 4] [2, 4, 3, 0, 1] rfl rfl rfl rfl (by decide) rfl rfl (ci := 6) (q0 := 0) rfl rfl rfl rfl hl.1 rfl rfl (Nat.le_of_ble_eq_true rfl) dX6_findS_129 (fun H locs hP hD hS => ?_)
      obtain ⟨y3, ey3⟩ : ∃ z : Int32, z = x4 + (-1 : Int32) := ⟨_, rfl⟩
      have hf := nm_use ey3 hf
      refine lv_iinc (v := y3) (lv' := [(4, .int y3), (0, .ref q0)]) hx hb dX6_findS_132 hl (k := 1) rfl (by rw [ey3]; rfl) (by decide) rfl (fun ls hl => ?_)
      refine lv_goto (tgt := 112) hx hb dX6_findS_135 (by decide) ?_
      exact ih r2.2 r2.1 k0_steps k1 y3 _ _ ls hf hP hD hS (lv_sub hl [1, 0] rfl)
set_option maxHeartbeats 4000000 in
set_option maxRecDepth 100000 in
theorem wX6_findS_56 {p : Program} {l : Launch} {e : Env} {s : State} {m : MethodId} {args : Array Value} {below : List Frame} {meth : Method} {c : Code} {G : GX} {A : Nat → Prop} (C : Cx p s m args meth c cX6_findS 5 none wsX6_findS RX6 G A) (q0 : Nat) (q0_one : Nat) (q0_other : Nat) (q0_third : Nat) (q0_waysTo : Nat) (q0_poly : Nat) (q0_then : Nat) (q0_steps : Nat) (q0_sheet : Nat) (q0_next : Nat) (q0_wide : Nat) (q0_partOf : Nat) (q0_partTimes : Nat) (q0_foundAt : Nat) (q1 : Nat) (k0_isParted : Int32) (k0_parts : Int32) (k0_found : Int32) (res : (Nat → Int64) × (Nat → Int64) × (Nat → Int32) × (Nat → Int32)) (n : Nat) : ∀ (k0_poly : Nat → Int64) (k0_then : Nat → Int64) (k0_steps : Nat → Int32) (k1 : Nat → Int32) (x2 : Int32) (x4 : Int32) (H : Heap) (locs : List Loc) (ls : Array Slot), fX6_findS_L56 n k0_poly k0_then k0_steps k1 x2 x4 = some res → va_P G.1 vwCl (wdX6_findS G q0 q0_one q0_other q0_third q0_waysTo q0_poly q0_then q0_steps q0_sheet q0_next q0_wide q0_partOf q0_partTimes q0_foundAt q1 k0_poly k0_then k0_steps k0_isParted k0_parts k0_found k1) H → va_D A (wdX6_findS G q0 q0_one q0_other q0_third q0_waysTo q0_poly q0_then q0_steps q0_sheet q0_next q0_wide q0_partOf q0_partTimes q0_foundAt q1 k0_poly k0_then k0_steps k0_isParted k0_parts k0_found k1) → va_S A s.heap H locs → lv_has ls 5 [(0, .ref q0), (1, .ref q1), (2, .int x2), (4, .int x4)] → glX6_findS p l e s m args below meth c G A q0 q0_one q0_other q0_third q0_waysTo q0_poly q0_then q0_steps q0_sheet q0_next q0_wide q0_partOf q0_partTimes q0_foundAt q1 k0_isParted k0_parts k0_found res H locs 56 ls [] := by
  obtain ⟨hx, hb, hml, hown, hts, hr, hlocks, hA, hG⟩ := id C
  induction n with
  | zero => intro k0_poly k0_then k0_steps k1 x2 x4 H locs ls hf hP hD hS hl; cases hf
  | succ n ih =>
    intro k0_poly k0_then k0_steps k1 x2 x4 H locs ls hf hP hD hS hl
    simp only [fX6_findS_L56] at hf
    refine lv_iload hx hb dX6_findS_56 (lv_at hl 3 rfl) ?_
    refine lv_sipush (v := (3024 : Int32)) hx hb dX6_findS_58 (by decide) ?_
    refine lv_icmp_ge (tgt := 78) hx hb dX6_findS_61 (by decide) (fun hc => ?_) (fun hc => ?_)
    · have hf := if_t hc hf
      refine lv_aload_n hx hb dX6_findS_78 rfl (lv_at hl 0 rfl) ?_
      refine va_get (D := G.1) (ci := 6) (v := .ref q0_poly) (C := RX6) (T := TX6) (N := 16) hx hb hts nX6_findS_X6 hown hG.1 hP 0 rfl rfl 4 (by decide) (hts _ mX6_findS_0) (fun _ h9 => h9) rfl dX6_findS_79 ?_
      refine lv_aload_n hx hb dX6_findS_82 rfl (lv_at hl 1 rfl) ?_
      refine lv_iconst (v := (1 : Int32)) hx hb dX6_findS_83 (by decide) ?_
      obtain ⟨r4, hr4, hf⟩ := bd_use hf
      refine cl_S (wn := (wdX6_findS G q0 q0_one q0_other q0_third q0_waysTo q0_poly q0_then q0_steps q0_sheet q0_next q0_wide q0_partOf q0_partTimes q0_foundAt q1 k0_poly k0_then k0_steps k0_isParted k0_parts k0_found k1)) (st1 := [.int r4, .ref q0_poly]) C hP hD hS (tX6_codeAt l G q1 k1 (1 : Int32) r4 hr4) (va_cwS 2 hts gX6_findS_X6_codeAt rfl rfl rfl (by decide +kernel) ⟨Nat.le_of_ble_eq_true rfl, Nat.le_of_ble_eq_true rfl⟩) [4] [0, 1, 2, 3] [0, 1, 2, 3, 4] rfl rfl rfl rfl (by decide) rfl rfl rfl hl.1 rfl rfl (Nat.le_of_ble_eq_true rfl) dX6_findS_84 (fun H locs hP hD hS => ?_)
      refine lv_aload_n hx hb dX6_findS_87 rfl (lv_at hl 1 rfl) ?_
      refine lv_iconst (v := (2 : Int32)) hx hb dX6_findS_88 (by decide) ?_
      obtain ⟨r5, hr5, hf⟩ := bd_use hf
      refine cl_S (wn := (wdX6_findS G q0 q0_one q0_other q0_third q0_waysTo q0_poly q0_then q0_steps q0_sheet q0_next q0_wide q0_partOf q0_partTimes q0_foundAt q1 k0_poly k0_then k0_steps k0_isParted k0_parts k0_found k1)) (st1 := [.int r5, .int r4, .ref q0_poly]) C hP hD hS (tX6_codeAt l G q1 k1 (2 : Int32) r5 hr5) (va_cwS 2 hts gX6_findS_X6_codeAt rfl rfl rfl (by decide +kernel) ⟨Nat.le_of_ble_eq_true rfl, Nat.le_of_ble_eq_true rfl⟩) [4] [0, 1, 2, 3] [0, 1, 2, 3, 4] rfl rfl rfl rfl (by decide) rfl rfl rfl hl.1 rfl rfl (Nat.le_of_ble_eq_true rfl) dX6_findS_89 (fun H locs hP hD hS => ?_)
      refine lv_aload_n hx hb dX6_findS_92 rfl (lv_at hl 1 rfl) ?_
      refine lv_iconst (v := (3 : Int32)) hx hb dX6_findS_93 (by decide) ?_
      obtain ⟨r6, hr6, hf⟩ := bd_use hf
      refine cl_S (wn := (wdX6_findS G q0 q0_one q0_other q0_third q0_waysTo q0_poly q0_then q0_steps q0_sheet q0_next q0_wide q0_partOf q0_partTimes q0_foundAt q1 k0_poly k0_then k0_steps k0_isParted k0_parts k0_found k1)) (st1 := [.int r6, .int r5, .int r4, .ref q0_poly]) C hP hD hS (tX6_codeAt l G q1 k1 (3 : Int32) r6 hr6) (va_cwS 2 hts gX6_findS_X6_codeAt rfl rfl rfl (by decide +kernel) ⟨Nat.le_of_ble_eq_true rfl, Nat.le_of_ble_eq_true rfl⟩) [4] [0, 1, 2, 3] [0, 1, 2, 3, 4] rfl rfl rfl rfl (by decide) rfl rfl rfl hl.1 rfl rfl (Nat.le_of_ble_eq_true rfl) dX6_findS_94 (fun H locs hP hD hS => ?_)
      refine lv_aload_n hx hb dX6_findS_97 rfl (lv_at hl 1 rfl) ?_
      refine lv_iconst (v := (4 : Int32)) hx hb dX6_findS_98 (by decide) ?_
      obtain ⟨r7, hr7, hf⟩ := bd_use hf
      refine cl_S (wn := (wdX6_findS G q0 q0_one q0_other q0_third q0_waysTo q0_poly q0_then q0_steps q0_sheet q0_next q0_wide q0_partOf q0_partTimes q0_foundAt q1 k0_poly k0_then k0_steps k0_isParted k0_parts k0_found k1)) (st1 := [.int r7, .int r6, .int r5, .int r4, .ref q0_poly]) C hP hD hS (tX6_codeAt l G q1 k1 (4 : Int32) r7 hr7) (va_cwS 2 hts gX6_findS_X6_codeAt rfl rfl rfl (by decide +kernel) ⟨Nat.le_of_ble_eq_true rfl, Nat.le_of_ble_eq_true rfl⟩) [4] [0, 1, 2, 3] [0, 1, 2, 3, 4] rfl rfl rfl rfl (by decide) rfl rfl rfl hl.1 rfl rfl (Nat.le_of_ble_eq_true rfl) dX6_findS_99 (fun H locs hP hD hS => ?_)
      obtain ⟨r8, hr8, hf⟩ := bd_use hf
      refine cl_S (wn := (wdX6_findS G q0 q0_one q0_other q0_third q0_waysTo q0_poly q0_then q0_steps q0_sheet q0_next q0_wide q0_partOf q0_partTimes q0_foundAt q1 k0_poly k0_then k0_steps k0_isParted k0_parts k0_found k1)) (st1 := [.int r8, .ref q0_poly]) C hP hD hS (tX6_cellOf l G r4 r5 r6 r7 r8 hr8) (va_cwS 4 hts gX6_findS_X6_cellOf rfl rfl rfl (by decide +kernel) ⟨Nat.le_of_ble_eq_true rfl, Nat.le_of_ble_eq_true rfl⟩) [] [0, 1, 2, 3, 4] [0, 1, 2, 3, 4] rfl rfl rfl rfl (by decide) rfl rfl rfl hl.1 rfl rfl (Nat.le_of_ble_eq_true rfl) dX6_findS_102 (fun H locs hP hD hS => ?_)
      refine lv_lconst (v := (1 : Int64)) hx hb dX6_findS_105 (by decide) ?_
      obtain ⟨hin, hf⟩ := pJ_use hf
      refine va_last hx hb hG.1 hP hD hS 1 1 rfl rfl hin dX6_findS_106 (fun H locs hP hD hS => ?_)
      have hP : va_P G.1 vwCl (wdX6_findS G q0 q0_one q0_other q0_third q0_waysTo q0_poly q0_then q0_steps q0_sheet q0_next q0_wide q0_partOf q0_partTimes q0_foundAt q1 (vp_updL k0_poly (r8).toNatClampNeg (1 : Int64)) k0_then k0_steps k0_isParted k0_parts k0_found k1) H := hP
      have hD : va_D A (wdX6_findS G q0 q0_one q0_other q0_third q0_waysTo q0_poly q0_then q0_steps q0_sheet q0_next q0_wide q0_partOf q0_partTimes q0_foundAt q1 (vp_updL k0_poly (r8).toNatClampNeg (1 : Int64)) k0_then k0_steps k0_isParted k0_parts k0_found k1) := hD
      refine lv_iload_n hx hb dX6_findS_107 rfl (lv_at hl 2 rfl) ?_
      refine lv_iconst (v := (1 : Int32)) hx hb dX6_findS_108 (by decide) ?_
      refine lv_isub hx hb dX6_findS_109 ?_
      refine lv_topi (fun y10 ey10 => ?_)
      have hf := nm_use ey10 hf
      refine lv_istore (lv' := [(4, .int y10), (0, .ref q0), (1, .ref q1), (2, .int x2)]) hx hb dX6_findS_110 hl (by decide) rfl (fun ls hl => ?_)
      exact wX6_findS_112 C q0 q0_one q0_other q0_third q0_waysTo q0_poly q0_then q0_steps q0_sheet q0_next q0_wide q0_partOf q0_partTimes q0_foundAt q1 k0_isParted k0_parts k0_found res fu (vp_updL k0_poly (r8).toNatClampNeg (1 : Int64)) k0_then k0_steps k1 y10 _ _ ls hf hP hD hS (lv_sub hl [1, 0] rfl)
    · have hf := if_f hc hf
      refine lv_aload_n hx hb dX6_findS_64 rfl (lv_at hl 0 rfl) ?_
      refine va_get (D := G.1) (ci := 6) (v := .ref q0_poly) (C := RX6) (T := TX6) (N := 16) hx hb hts nX6_findS_X6 hown hG.1 hP 0 rfl rfl 4 (by decide) (hts _ mX6_findS_0) (fun _ h9 => h9) rfl dX6_findS_65 ?_
      refine lv_iload hx hb dX6_findS_68 (lv_at hl 3 rfl) ?_
      refine lv_lconst (v := (0 : Int64)) hx hb dX6_findS_70 (by decide) ?_
      obtain ⟨hin, hf⟩ := pJ_use hf
      refine va_last hx hb hG.1 hP hD hS 1 1 rfl rfl hin dX6_findS_71 (fun H locs hP hD hS => ?_)
      have hP : va_P G.1 vwCl (wdX6_findS G q0 q0_one q0_other q0_third q0_waysTo q0_poly q0_then q0_steps q0_sheet q0_next q0_wide q0_partOf q0_partTimes q0_foundAt q1 (vp_updL k0_poly (x4).toNatClampNeg (0 : Int64)) k0_then k0_steps k0_isParted k0_parts k0_found k1) H := hP
      have hD : va_D A (wdX6_findS G q0 q0_one q0_other q0_third q0_waysTo q0_poly q0_then q0_steps q0_sheet q0_next q0_wide q0_partOf q0_partTimes q0_foundAt q1 (vp_updL k0_poly (x4).toNatClampNeg (0 : Int64)) k0_then k0_steps k0_isParted k0_parts k0_found k1) := hD
      obtain ⟨y12, ey12⟩ : ∃ z : Int32, z = x4 + (1 : Int32) := ⟨_, rfl⟩
      have hf := nm_use ey12 hf
      refine lv_iinc (v := y12) (lv' := [(4, .int y12), (0, .ref q0), (1, .ref q1), (2, .int x2)]) hx hb dX6_findS_72 hl (k := 3) rfl (by rw [ey12]; rfl) (by decide) rfl (fun ls hl => ?_)
      refine lv_goto (tgt := 56) hx hb dX6_findS_75 (by decide) ?_
      exact ih (vp_updL k0_poly (x4).toNatClampNeg (0 : Int64)) k0_then k0_steps k1 x2 y12 _ _ ls hf hP hD hS (lv_sub hl [1, 2, 3, 0] rfl)
set_option maxHeartbeats 4000000 in
set_option maxRecDepth 100000 in
theorem wX6_findS_4 {p : Program} {l : Launch} {e : Env} {s : State} {m : MethodId} {args : Array Value} {below : List Frame} {meth : Method} {c : Code} {G : GX} {A : Nat → Prop} (C : Cx p s m args meth c cX6_findS 5 none wsX6_findS RX6 G A) (q0 : Nat) (q0_one : Nat) (q0_other : Nat) (q0_third : Nat) (q0_waysTo : Nat) (q0_poly : Nat) (q0_then : Nat) (q0_steps : Nat) (q0_sheet : Nat) (q0_next : Nat) (q0_wide : Nat) (q0_partOf : Nat) (q0_partTimes : Nat) (q0_foundAt : Nat) (q1 : Nat) (k0_isParted : Int32) (k0_parts : Int32) (k0_found : Int32) (res : (Nat → Int64) × (Nat → Int64) × (Nat → Int32) × (Nat → Int32)) (n : Nat) : ∀ (k0_poly : Nat → Int64) (k0_then : Nat → Int64) (k0_steps : Nat → Int32) (k1 : Nat → Int32) (x2 : Int32) (x3 : Int32) (H : Heap) (locs : List Loc) (ls : Array Slot), fX6_findS_L4 n k0_poly k0_then k0_steps k1 x2 x3 = some res → va_P G.1 vwCl (wdX6_findS G q0 q0_one q0_other q0_third q0_waysTo q0_poly q0_then q0_steps q0_sheet q0_next q0_wide q0_partOf q0_partTimes q0_foundAt q1 k0_poly k0_then k0_steps k0_isParted k0_parts k0_found k1) H → va_D A (wdX6_findS G q0 q0_one q0_other q0_third q0_waysTo q0_poly q0_then q0_steps q0_sheet q0_next q0_wide q0_partOf q0_partTimes q0_foundAt q1 k0_poly k0_then k0_steps k0_isParted k0_parts k0_found k1) → va_S A s.heap H locs → lv_has ls 5 [(0, .ref q0), (1, .ref q1), (2, .int x2), (3, .int x3)] → glX6_findS p l e s m args below meth c G A q0 q0_one q0_other q0_third q0_waysTo q0_poly q0_then q0_steps q0_sheet q0_next q0_wide q0_partOf q0_partTimes q0_foundAt q1 k0_isParted k0_parts k0_found res H locs 4 ls [] := by
  obtain ⟨hx, hb, hml, hown, hts, hr, hlocks, hA, hG⟩ := id C
  induction n with
  | zero => intro k0_poly k0_then k0_steps k1 x2 x3 H locs ls hf hP hD hS hl; cases hf
  | succ n ih =>
    intro k0_poly k0_then k0_steps k1 x2 x3 H locs ls hf hP hD hS hl
    simp only [fX6_findS_L4] at hf
    refine lv_iload_n hx hb dX6_findS_4 rfl (lv_at hl 3 rfl) ?_
    refine lv_iconst (v := (4 : Int32)) hx hb dX6_findS_5 (by decide) ?_
    refine lv_icmp_ge (tgt := 53) hx hb dX6_findS_6 (by decide) (fun hc => ?_) (fun hc => ?_)
    · have hf := if_t hc hf
      refine lv_iconst (v := (0 : Int32)) hx hb dX6_findS_53 (by decide) ?_
      refine lv_istore (lv' := [(4, .int (0 : Int32)), (0, .ref q0), (1, .ref q1), (2, .int x2), (3, .int x3)]) hx hb dX6_findS_54 hl (by decide) rfl (fun ls hl => ?_)
      exact wX6_findS_56 C q0 q0_one q0_other q0_third q0_waysTo q0_poly q0_then q0_steps q0_sheet q0_next q0_wide q0_partOf q0_partTimes q0_foundAt q1 k0_isParted k0_parts k0_found res fu k0_poly k0_then k0_steps k1 x2 (0 : Int32) _ _ ls hf hP hD hS (lv_sub hl [1, 2, 3, 0] rfl)
    · have hf := if_f hc hf
      refine lv_aload_n hx hb dX6_findS_9 rfl (lv_at hl 1 rfl) ?_
      refine lv_iload_n hx hb dX6_findS_10 rfl (lv_at hl 3 rfl) ?_
      obtain ⟨r13, hr13, hf⟩ := bd_use hf
      refine cl_S (wn := (wdX6_findS G q0 q0_one q0_other q0_third q0_waysTo q0_poly q0_then q0_steps q0_sheet q0_next q0_wide q0_partOf q0_partTimes q0_foundAt q1 k0_poly k0_then k0_steps k0_isParted k0_parts k0_found k1)) (st1 := [.int r13]) C hP hD hS (tX6_codeAt l G q1 k1 x3 r13 hr13) (va_cwS 2 hts gX6_findS_X6_codeAt rfl rfl rfl (by decide +kernel) ⟨Nat.le_of_ble_eq_true rfl, Nat.le_of_ble_eq_true rfl⟩) [4] [0, 1, 2, 3] [0, 1, 2, 3, 4] rfl rfl rfl rfl (by decide) rfl rfl rfl hl.1 rfl rfl (Nat.le_of_ble_eq_true rfl) dX6_findS_11 (fun H locs hP hD hS => ?_)
      refine lv_aload_n hx hb dX6_findS_14 rfl (lv_at hl 1 rfl) ?_
      refine lv_iload_n hx hb dX6_findS_15 rfl (lv_at hl 3 rfl) ?_
      refine lv_iconst (v := (1 : Int32)) hx hb dX6_findS_16 (by decide) ?_
      refine lv_iadd hx hb dX6_findS_17 ?_
      obtain ⟨r14, hr14, hf⟩ := bd_use hf
      refine cl_S (wn := (wdX6_findS G q0 q0_one q0_other q0_third q0_waysTo q0_poly q0_then q0_steps q0_sheet q0_next q0_wide q0_partOf q0_partTimes q0_foundAt q1 k0_poly k0_then k0_steps k0_isParted k0_parts k0_found k1)) (st1 := [.int r14, .int r13]) C hP hD hS (tX6_codeAt l G q1 k1 (x3 + (1 : Int32)) r14 hr14) (va_cwS 2 hts gX6_findS_X6_codeAt rfl rfl rfl (by decide +kernel) ⟨Nat.le_of_ble_eq_true rfl, Nat.le_of_ble_eq_true rfl⟩) [4] [0, 1, 2, 3] [0, 1, 2, 3, 4] rfl rfl rfl rfl (by decide) rfl rfl rfl hl.1 rfl rfl (Nat.le_of_ble_eq_true rfl) dX6_findS_18 (fun H locs hP hD hS => ?_)
      refine lv_icmp_ge (tgt := 47) hx hb dX6_findS_21 (by decide) (fun hc => ?_) (fun hc => ?_)
      · have hf := if_t hc hf
        obtain ⟨y15, ey15⟩ : ∃ z : Int32, z = x3 + (1 : Int32) := ⟨_, rfl⟩
        have hf := nm_use ey15 hf
        refine lv_iinc (v := y15) (lv' := [(3, .int y15), (0, .ref q0), (1, .ref q1), (2, .int x2)]) hx hb dX6_findS_47 hl (k := 3) rfl (by rw [ey15]; rfl) (by decide) rfl (fun ls hl => ?_)
        refine lv_goto (tgt := 4) hx hb dX6_findS_50 (by decide) ?_
        exact ih k0_poly k0_then k0_steps k1 x2 y15 _ _ ls hf hP hD hS (lv_sub hl [1, 2, 3, 0] rfl)
      · have hf := if_f hc hf
        refine lv_aload_n hx hb dX6_findS_24 rfl (lv_at hl 1 rfl) ?_
        refine lv_iload_n hx hb dX6_findS_25 rfl (lv_at hl 3 rfl) ?_
        refine lv_iload_n hx hb dX6_findS_26 rfl (lv_at hl 3 rfl) ?_
        refine lv_iconst (v := (1 : Int32)) hx hb dX6_findS_27 (by decide) ?_
        refine lv_iadd hx hb dX6_findS_28 ?_
        obtain ⟨r16, hr16, hf⟩ := bd_use hf
        refine cl_S (wn := (wdX6_findS G q0 q0_one q0_other q0_third q0_waysTo q0_poly q0_then q0_steps q0_sheet q0_next q0_wide q0_partOf q0_partTimes q0_foundAt q1 k0_poly k0_then k0_steps k0_isParted k0_parts k0_found r16)) (st1 := []) C hP hD hS (tX6_exchange l G q1 k1 x3 (x3 + (1 : Int32)) r16 hr16) (va_cwS 3 hts gX6_findS_X6_exchange rfl rfl rfl (by decide +kernel) ⟨Nat.le_of_ble_eq_true rfl, Nat.le_of_ble_eq_true rfl⟩) [4] [0, 1, 2, 3] [0, 1, 2, 3, 4] rfl rfl rfl rfl (by decide) rfl rfl rfl hl.1 rfl rfl (Nat.le_of_ble_eq_true rfl) dX6_findS_29 (fun H locs hP hD hS => ?_)
        refine lv_aload_n hx hb dX6_findS_32 rfl (lv_at hl 0 rfl) ?_
        refine va_get (D := G.1) (ci := 6) (v := .ref q0_steps) (C := RX6) (T := TX6) (N := 16) hx hb hts nX6_findS_X6 hown hG.1 hP 0 rfl rfl 6 (by decide) (hts _ mX6_findS_1) (fun _ h9 => h9) rfl dX6_findS_33 ?_
        refine lv_iload_n hx hb dX6_findS_36 rfl (lv_at hl 2 rfl) ?_
        refine lv_iload_n hx hb dX6_findS_37 rfl (lv_at hl 3 rfl) ?_
        obtain ⟨hin, hf⟩ := pI_use hf
        refine va_iast hx hb hG.1 hP hD hS 3 0 rfl rfl hin dX6_findS_38 (fun H locs hP hD hS => ?_)
        have hP : va_P G.1 vwCl (wdX6_findS G q0 q0_one q0_other q0_third q0_waysTo q0_poly q0_then q0_steps q0_sheet q0_next q0_wide q0_partOf q0_partTimes q0_foundAt q1 k0_poly k0_then (upd k0_steps (x2).toNatClampNeg x3) k0_isParted k0_parts k0_found r16) H := hP
        have hD : va_D A (wdX6_findS G q0 q0_one q0_other q0_third q0_waysTo q0_poly q0_then q0_steps q0_sheet q0_next q0_wide q0_partOf q0_partTimes q0_foundAt q1 k0_poly k0_then (upd k0_steps (x2).toNatClampNeg x3) k0_isParted k0_parts k0_found r16) := hD
        obtain ⟨y18, ey18⟩ : ∃ z : Int32, z = x2 + (1 : Int32) := ⟨_, rfl⟩
        have hf := nm_use ey18 hf
        refine lv_iinc (v := y18) (lv' := [(2, .int y18), (0, .ref q0), (1, .ref q1), (3, .int x3)]) hx hb dX6_findS_39 hl (k := 2) rfl (by rw [ey18]; rfl) (by decide) rfl (fun ls hl => ?_)
        refine lv_iconst (v := (1 : Int32)) hx hb dX6_findS_42 (by decide) ?_
        refine lv_istore_n (lv' := [(3, .int (1 : Int32)), (2, .int y18), (0, .ref q0), (1, .ref q1)]) hx hb dX6_findS_43 rfl hl (by decide) rfl (fun ls hl => ?_)
        refine lv_goto (tgt := 4) hx hb dX6_findS_44 (by decide) ?_
        exact ih k0_poly k0_then (upd k0_steps (x2).toNatClampNeg x3) r16 y18 (1 : Int32) _ _ ls hf hP hD hS (lv_sub hl [2, 3, 1, 0] rfl)
set_option maxHeartbeats 4000000 in
set_option maxRecDepth 100000 in
theorem tX6_findS (l : Launch) (G : GX) (q0 : Nat) (q0_one : Nat) (q0_other : Nat) (q0_third : Nat) (q0_waysTo : Nat) (q0_poly : Nat) (q0_then : Nat) (q0_steps : Nat) (q0_sheet : Nat) (q0_next : Nat) (q0_wide : Nat) (q0_partOf : Nat) (q0_partTimes : Nat) (q0_foundAt : Nat) (q1 : Nat) (k0_poly : Nat → Int64) (k0_then : Nat → Int64) (k0_steps : Nat → Int32) (k0_isParted : Int32) (k0_parts : Int32) (k0_found : Int32) (k1 : Nat → Int32) (res : (Nat → Int64) × (Nat → Int64) × (Nat → Int32) × (Nat → Int32)) (hf : fX6_findS k0_poly k0_then k0_steps k1 = some res) : Ct l yX6_findS wsX6_findS rmX6_findS G [.ref q0, .ref q1] (wdX6_findS G q0 q0_one q0_other q0_third q0_waysTo q0_poly q0_then q0_steps q0_sheet q0_next q0_wide q0_partOf q0_partTimes q0_foundAt q1 k0_poly k0_then k0_steps k0_isParted k0_parts k0_found k1) (wdX6_findS G q0 q0_one q0_other q0_third q0_waysTo q0_poly q0_then q0_steps q0_sheet q0_next q0_wide q0_partOf q0_partTimes q0_foundAt q1 res.1 res.2.1 res.2.2.1 k0_isParted k0_parts k0_found res.2.2.2) none := by
  refine Ct.of (cc := cX6_findS) (nL := 5) (ret := none) (by decide) rfl (Nat.le_of_ble_eq_true rfl) rfl ?_
  intro p e s m below meth c A ls C hP hD hl
  obtain ⟨hx, hb, hml, hown, hts, hr, hlocks, hA, hG⟩ := id C
  have hS : va_S A s.heap s.heap [] := va_S.rf
  unfold fX6_findS at hf
  refine lv_iconst (v := (0 : Int32)) hx hb dX6_findS_0 (by decide) ?_
  refine lv_istore_n (lv' := [(2, .int (0 : Int32)), (0, .ref q0), (1, .ref q1)]) hx hb dX6_findS_1 rfl hl (by decide) rfl (fun ls hl => ?_)
  refine lv_iconst (v := (1 : Int32)) hx hb dX6_findS_2 (by decide) ?_
  refine lv_istore_n (lv' := [(3, .int (1 : Int32)), (2, .int (0 : Int32)), (0, .ref q0), (1, .ref q1)]) hx hb dX6_findS_3 rfl hl (by decide) rfl (fun ls hl => ?_)
  exact wX6_findS_4 C q0 q0_one q0_other q0_third q0_waysTo q0_poly q0_then q0_steps q0_sheet q0_next q0_wide q0_partOf q0_partTimes q0_foundAt q1 k0_isParted k0_parts k0_found res fu k0_poly k0_then k0_steps k1 (0 : Int32) (1 : Int32) _ _ ls hf hP hD hS (lv_sub hl [2, 3, 1, 0] rfl)
