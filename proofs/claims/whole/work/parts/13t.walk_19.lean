abbrev wdX6_lastDescent (G : GX) (q0 : Nat) (k0 : Nat → Int32) : va_W := [(q0, .inl (G.2.1, 10, .inl k0))]
abbrev rmX6_lastDescent : Room := { frames := 0, cells := 0, slots := 0, locals := 0 }
abbrev glX6_lastDescent (p : Program) (l : Launch) (e : Env) (s : State) (m : MethodId) (args : Array Value) (below : List Frame) (meth : Method) (c : Code) (G : GX) (A : Nat → Prop) (q0 : Nat) (k0 : Nat → Int32) (res : Int32) (H : Heap) (locs : List Loc) (pc : Nat) (ls : Array Slot) (st : List Value) : Prop := W p l e rmX6_lastDescent s m args below meth c H locs 0 0 (MQ below (ctQ G A (wdX6_lastDescent G q0 k0) (some (.int res))) args s 0 0 A) (F0 m pc ls st)
set_option maxHeartbeats 4000000 in
set_option maxRecDepth 100000 in
theorem wX6_lastDescent_3 {p : Program} {l : Launch} {e : Env} {s : State} {m : MethodId} {args : Array Value} {below : List Frame} {meth : Method} {c : Code} {G : GX} {A : Nat → Prop} (C : Cx p s m args meth c cX6_lastDescent 2 (some .int) wsX6_lastDescent RX6 G A) (q0 : Nat) (k0 : Nat → Int32) (res : Int32) (n : Nat) : ∀ (x1 : Int32) (H : Heap) (locs : List Loc) (ls : Array Slot), fX6_lastDescent_L3 k0 n x1 = some res → va_P G.1 vwCl (wdX6_lastDescent G q0 k0) H → va_D A (wdX6_lastDescent G q0 k0) → va_S A s.heap H locs → lv_has ls 2 [(0, .ref q0), (1, .int x1)] → glX6_lastDescent p l e s m args below meth c G A q0 k0 res H locs 3 ls [] := by
  obtain ⟨hx, hb, hml, hown, hts, hr, hlocks, hA, hG⟩ := id C
  induction n with
  | zero => intro x1 H locs ls hf hP hD hS hl; cases hf
  | succ n ih =>
    intro x1 H locs ls hf hP hD hS hl
    simp only [fX6_lastDescent_L3] at hf
    refine lv_aload_n hx hb dX6_lastDescent_3 rfl (lv_at hl 0 rfl) ?_
    refine lv_iload_n hx hb dX6_lastDescent_4 rfl (lv_at hl 1 rfl) ?_
    obtain ⟨hin, hf⟩ := gI_use hf
    refine va_iald hx hb hG.1 hP 0 0 rfl rfl hin dX6_lastDescent_5 ?_
    refine lv_aload_n hx hb dX6_lastDescent_6 rfl (lv_at hl 0 rfl) ?_
    refine lv_iload_n hx hb dX6_lastDescent_7 rfl (lv_at hl 1 rfl) ?_
    refine lv_iconst (v := (1 : Int32)) hx hb dX6_lastDescent_8 (by decide) ?_
    refine lv_iadd hx hb dX6_lastDescent_9 ?_
    obtain ⟨hin, hf⟩ := gI_use hf
    refine va_iald hx hb hG.1 hP 0 0 rfl rfl hin dX6_lastDescent_10 ?_
    refine lv_icmp_ge (tgt := 20) hx hb dX6_lastDescent_11 (by decide) (fun hc => ?_) (fun hc => ?_)
    · have hf := if_t hc hf
      refine lv_iload_n hx hb dX6_lastDescent_20 rfl (lv_at hl 1 rfl) ?_
      cases hf
      exact rt_i C hP hD hS dX6_lastDescent_21
    · have hf := if_f hc hf
      obtain ⟨y3, ey3⟩ : ∃ z : Int32, z = x1 + (-1 : Int32) := ⟨_, rfl⟩
      have hf := nm_use ey3 hf
      refine lv_iinc (v := y3) (lv' := [(1, .int y3), (0, .ref q0)]) hx hb dX6_lastDescent_14 hl (k := 1) rfl (by rw [ey3]; rfl) (by decide) rfl (fun ls hl => ?_)
      refine lv_goto (tgt := 3) hx hb dX6_lastDescent_17 (by decide) ?_
      exact ih y3 _ _ ls hf hP hD hS (lv_sub hl [1, 0] rfl)
set_option maxHeartbeats 4000000 in
set_option maxRecDepth 100000 in
theorem tX6_lastDescent (l : Launch) (G : GX) (q0 : Nat) (k0 : Nat → Int32) (res : Int32) (hf : fX6_lastDescent k0 = some res) : Ct l yX6_lastDescent wsX6_lastDescent rmX6_lastDescent G [.ref q0] (wdX6_lastDescent G q0 k0) (wdX6_lastDescent G q0 k0) (some (.int res)) := by
  refine Ct.of (cc := cX6_lastDescent) (nL := 2) (ret := (some .int)) (by decide) rfl (Nat.le_of_ble_eq_true rfl) rfl ?_
  intro p e s m below meth c A ls C hP hD hl
  obtain ⟨hx, hb, hml, hown, hts, hr, hlocks, hA, hG⟩ := id C
  have hS : va_S A s.heap s.heap [] := va_S.rf
  unfold fX6_lastDescent at hf
  refine lv_bipush (v := (8 : Int32)) hx hb dX6_lastDescent_0 (by decide) ?_
  refine lv_istore_n (lv' := [(1, .int (8 : Int32)), (0, .ref q0)]) hx hb dX6_lastDescent_2 rfl hl (by decide) rfl (fun ls hl => ?_)
  exact wX6_lastDescent_3 C q0 k0 res fu (8 : Int32) _ _ ls hf hP hD hS (lv_sub hl [1, 0] rfl)
abbrev wdX6_step (G : GX) (q0 : Nat) (q0_one : Nat) (q0_other : Nat) (q0_third : Nat) (q0_waysTo : Nat) (q0_poly : Nat) (q0_then : Nat) (q0_steps : Nat) (q0_sheet : Nat) (q0_next : Nat) (q0_wide : Nat) (q0_partOf : Nat) (q0_partTimes : Nat) (q0_foundAt : Nat) (k0_one : Nat → Int32) (k0_isParted : Int32) (k0_parts : Int32) (k0_found : Int32) (k0_foundAt : Nat → Int32) : va_W := [(q0, .inr (6, [.ref q0_one, .ref q0_other, .ref q0_third, .ref q0_waysTo, .ref q0_poly, .ref q0_then, .ref q0_steps, .ref q0_sheet, .ref q0_next, .int k0_isParted, .ref q0_wide, .int k0_parts, .ref q0_partOf, .ref q0_partTimes, .int k0_found, .ref q0_foundAt])), (q0_one, .inl (G.2.1, 10, .inl k0_one)), (q0_foundAt, .inl (G.2.1, 64, .inl k0_foundAt))]
abbrev rmX6_step : Room := { frames := 2, cells := 0, slots := 0, locals := 48 }
abbrev glX6_step (p : Program) (l : Launch) (e : Env) (s : State) (m : MethodId) (args : Array Value) (below : List Frame) (meth : Method) (c : Code) (G : GX) (A : Nat → Prop) (q0 : Nat) (q0_one : Nat) (q0_other : Nat) (q0_third : Nat) (q0_waysTo : Nat) (q0_poly : Nat) (q0_then : Nat) (q0_steps : Nat) (q0_sheet : Nat) (q0_next : Nat) (q0_wide : Nat) (q0_partOf : Nat) (q0_partTimes : Nat) (q0_foundAt : Nat) (k0_isParted : Int32) (k0_parts : Int32) (res : Int32 × (Nat → Int32) × Int32 × (Nat → Int32)) (H : Heap) (locs : List Loc) (pc : Nat) (ls : Array Slot) (st : List Value) : Prop := W p l e rmX6_step s m args below meth c H locs 0 0 (MQ below (ctQ G A (wdX6_step G q0 q0_one q0_other q0_third q0_waysTo q0_poly q0_then q0_steps q0_sheet q0_next q0_wide q0_partOf q0_partTimes q0_foundAt res.2.1 k0_isParted k0_parts res.2.2.1 res.2.2.2) (some (.int res.1))) args s 0 0 A) (F0 m pc ls st)
set_option maxRecDepth 20000 in
theorem mX6_step_0 : Cond.fieldLink RX6 7 "SchubertDeskModel" "one" "[I" ∈ wsX6_step := by decide +kernel
set_option maxRecDepth 20000 in
theorem mX6_step_1 : Cond.fieldLink RX6 189 "SchubertDeskModel" "found" "I" ∈ wsX6_step := by decide +kernel
set_option maxRecDepth 20000 in
theorem nX6_step_X6 : ∀ w ∈ u_ws RX6 TX6 16, w ∈ wsX6_step := by decide +kernel
set_option maxHeartbeats 4000000 in
set_option maxRecDepth 100000 in
theorem wX6_step_145 {p : Program} {l : Launch} {e : Env} {s : State} {m : MethodId} {args : Array Value} {below : List Frame} {meth : Method} {c : Code} {G : GX} {A : Nat → Prop} (C : Cx p s m args meth c cX6_step 8 (some .int) wsX6_step RX6 G A) (q0 : Nat) (q0_one : Nat) (q0_other : Nat) (q0_third : Nat) (q0_waysTo : Nat) (q0_poly : Nat) (q0_then : Nat) (q0_steps : Nat) (q0_sheet : Nat) (q0_next : Nat) (q0_wide : Nat) (q0_partOf : Nat) (q0_partTimes : Nat) (q0_foundAt : Nat) (k0_isParted : Int32) (k0_parts : Int32) (p1 : Int32) (p2 : Int32) (res : Int32 × (Nat → Int32) × Int32 × (Nat → Int32)) (rec105 : (Nat → Int32) → Int32 → (Nat → Int32) → Int32 → Int32 → Int32 → Int32 → Int32 → Option (Int32 × (Nat → Int32) × Int32 × (Nat → Int32))) (hr105 : ∀ (k0_one : Nat → Int32) (k0_found : Int32) (k0_foundAt : Nat → Int32) (x3 : Int32) (x4 : Int32) (x5 : Int32) (x6 : Int32) (x7 : Int32) (H : Heap) (locs : List Loc) (ls : Array Slot), rec105 k0_one k0_found k0_foundAt x3 x4 x5 x6 x7 = some res → va_P G.1 vwCl (wdX6_step G q0 q0_one q0_other q0_third q0_waysTo q0_poly q0_then q0_steps q0_sheet q0_next q0_wide q0_partOf q0_partTimes q0_foundAt k0_one k0_isParted k0_parts k0_found k0_foundAt) H → va_D A (wdX6_step G q0 q0_one q0_other q0_third q0_waysTo q0_poly q0_then q0_steps q0_sheet q0_next q0_wide q0_partOf q0_partTimes q0_foundAt k0_one k0_isParted k0_parts k0_found k0_foundAt) → va_S A s.heap H locs → lv_has ls 8 [(0, .ref q0), (2, .int p2), (3, .int x3), (4, .int x4), (5, .int x5), (6, .int x6), (7, .int x7)] → glX6_step p l e s m args below meth c G A q0 q0_one q0_other q0_third q0_waysTo q0_poly q0_then q0_steps q0_sheet q0_next q0_wide q0_partOf q0_partTimes q0_foundAt k0_isParted k0_parts res H locs 105 ls []) : ∀ (k0_one : Nat → Int32) (k0_found : Int32) (k0_foundAt : Nat → Int32) (x3 : Int32) (x4 : Int32) (x5 : Int32) (x6 : Int32) (x7 : Int32) (H : Heap) (locs : List Loc) (ls : Array Slot), fX6_step_b145 p1 p2 rec105 k0_one k0_found k0_foundAt x3 x4 x5 x6 x7 = some res → va_P G.1 vwCl (wdX6_step G q0 q0_one q0_other q0_third q0_waysTo q0_poly q0_then q0_steps q0_sheet q0_next q0_wide q0_partOf q0_partTimes q0_foundAt k0_one k0_isParted k0_parts k0_found k0_foundAt) H → va_D A (wdX6_step G q0 q0_one q0_other q0_third q0_waysTo q0_poly q0_then q0_steps q0_sheet q0_next q0_wide q0_partOf q0_partTimes q0_foundAt k0_one k0_isParted k0_parts k0_found k0_foundAt) → va_S A s.heap H locs → lv_has ls 8 [(0, .ref q0), (2, .int p2), (3, .int x3), (4, .int x4), (5, .int x5), (6, .int x6), (7, .int x7)] → glX6_step p l e s m args below meth c G A q0 q0_one q0_other q0_third q0_waysTo q0_poly q0_then q0_steps q0_sheet q0_next q0_wide q0_partOf q0_partTimes q0_foundAt k0_isParted k0_parts res H locs 145 ls [] := by
  obtain ⟨hx, hb, hml, hown, hts, hr, hlocks, hA, hG⟩ := id C
  intro k0_one k0_found k0_foundAt x3 x4 x5 x6 x7 H locs ls hf hP hD hS hl
  unfold fX6_step_b145 at hf
  refine lv_aload_n hx hb dX6_step_145 rfl (lv_at hl 0 rfl) ?_
  refine va_get (D := G.1) (ci := 6) (v := .ref q0_one) (C := RX6) (T := TX6) (N := 16) hx hb hts nX6_step_X6 hown hG.1 hP 0 rfl rfl 0 (by decide) (hts _ mX6_step_0) (fun _ h9 => h9) rfl dX6_step_146 ?_
  refine lv_iload hx hb dX6_step_149 (lv_at hl 6 rfl) ?_
  refine lv_iload hx hb dX6_step_151 (lv_at hl 3 rfl) ?_
  obtain ⟨r1, hr1, hf⟩ := bd_use hf
  refine cl_S (wn := (wdX6_step G q0 q0_one q0_other q0_third q0_waysTo q0_poly q0_then q0_steps q0_sheet q0_next q0_wide q0_partOf q0_partTimes q0_foundAt r1 k0_isParted k0_parts k0_found k0_foundAt)) (st1 := []) C hP hD hS (tX6_exchange l G q0_one k0_one x7 x4 r1 hr1) (va_cwS 3 hts gX6_step_X6_exchange rfl rfl rfl (by decide +kernel) ⟨Nat.le_of_ble_eq_true rfl, Nat.le_of_ble_eq_true rfl⟩) [1] [0, 2] [0, 2, 1] rfl rfl rfl rfl (by decide) rfl rfl rfl hl.1 rfl rfl (Nat.le_of_ble_eq_true rfl) dX6_step_153 (fun H locs hP hD hS => ?_)
  obtain ⟨y2, ey2⟩ : ∃ z : Int32, z = x7 + (1 : Int32) := ⟨_, rfl⟩
  have hf := nm_use ey2 hf
  refine lv_iinc (v := y2) (lv' := [(7, .int y2), (0, .ref q0), (2, .int p2), (3, .int x3), (4, .int x4), (5, .int x5), (6, .int x6)]) hx hb dX6_step_156 hl (k := 6) rfl (by rw [ey2]; rfl) (by decide) rfl (fun ls hl => ?_)
  refine lv_goto (tgt := 105) hx hb dX6_step_159 (by decide) ?_
  exact hr105 r1 k0_found k0_foundAt x3 x4 x5 x6 y2 _ _ ls hf hP hD hS (lv_sub hl [1, 2, 3, 4, 5, 6, 0] rfl)
set_option maxHeartbeats 4000000 in
set_option maxRecDepth 100000 in
theorem wX6_step_105 {p : Program} {l : Launch} {e : Env} {s : State} {m : MethodId} {args : Array Value} {below : List Frame} {meth : Method} {c : Code} {G : GX} {A : Nat → Prop} (C : Cx p s m args meth c cX6_step 8 (some .int) wsX6_step RX6 G A) (q0 : Nat) (q0_one : Nat) (q0_other : Nat) (q0_third : Nat) (q0_waysTo : Nat) (q0_poly : Nat) (q0_then : Nat) (q0_steps : Nat) (q0_sheet : Nat) (q0_next : Nat) (q0_wide : Nat) (q0_partOf : Nat) (q0_partTimes : Nat) (q0_foundAt : Nat) (k0_isParted : Int32) (k0_parts : Int32) (p1 : Int32) (p2 : Int32) (res : Int32 × (Nat → Int32) × Int32 × (Nat → Int32)) (n : Nat) : ∀ (k0_one : Nat → Int32) (k0_found : Int32) (k0_foundAt : Nat → Int32) (x3 : Int32) (x4 : Int32) (x5 : Int32) (x6 : Int32) (x7 : Int32) (H : Heap) (locs : List Loc) (ls : Array Slot), fX6_step_L105 p1 p2 n k0_one k0_found k0_foundAt x3 x4 x5 x6 x7 = some res → va_P G.1 vwCl (wdX6_step G q0 q0_one q0_other q0_third q0_waysTo q0_poly q0_then q0_steps q0_sheet q0_next q0_wide q0_partOf q0_partTimes q0_foundAt k0_one k0_isParted k0_parts k0_found k0_foundAt) H → va_D A (wdX6_step G q0 q0_one q0_other q0_third q0_waysTo q0_poly q0_then q0_steps q0_sheet q0_next q0_wide q0_partOf q0_partTimes q0_foundAt k0_one k0_isParted k0_parts k0_found k0_foundAt) → va_S A s.heap H locs → lv_has ls 8 [(0, .ref q0), (2, .int p2), (3, .int x3), (4, .int x4), (5, .int x5), (6, .int x6), (7, .int x7)] → glX6_step p l e s m args below meth c G A q0 q0_one q0_other q0_third q0_waysTo q0_poly q0_then q0_steps q0_sheet q0_next q0_wide q0_partOf q0_partTimes q0_foundAt k0_isParted k0_parts res H locs 105 ls [] := by
  obtain ⟨hx, hb, hml, hown, hts, hr, hlocks, hA, hG⟩ := id C
  induction n with
  | zero => intro k0_one k0_found k0_foundAt x3 x4 x5 x6 x7 H locs ls hf hP hD hS hl; cases hf
  | succ n ih =>
    intro k0_one k0_found k0_foundAt x3 x4 x5 x6 x7 H locs ls hf hP hD hS hl
    simp only [fX6_step_L105] at hf
    refine lv_iload hx hb dX6_step_105 (lv_at hl 6 rfl) ?_
    refine lv_iload hx hb dX6_step_107 (lv_at hl 3 rfl) ?_
    refine lv_icmp_ge (tgt := 162) hx hb dX6_step_109 (by decide) (fun hc => ?_) (fun hc => ?_)
    · have hf := if_t hc hf
      refine lv_iload_n hx hb dX6_step_162 rfl (lv_at hl 1 rfl) ?_
      by_cases hs0 : p2 = (-3 : Int32)
      · have hf := if_t hs0 hf
        refine lv_tableIn (tgt := 192) (off := 29) hx hb dX6_step_163 (by rw [hs0]; decide) (by rw [hs0]; decide) (by rw [hs0]; decide) (by decide) ?_
        refine lv_iload hx hb dX6_step_192 (lv_at hl 3 rfl) ?_
        cases hf
        exact rt_i C hP hD hS dX6_step_194
      · have hf := if_f hs0 hf
        by_cases hs1 : p2 = (-2 : Int32)
        · have hf := if_t hs1 hf
          refine lv_tableIn (tgt := 195) (off := 32) hx hb dX6_step_163 (by rw [hs1]; decide) (by rw [hs1]; decide) (by rw [hs1]; decide) (by decide) ?_
          refine lv_iload hx hb dX6_step_195 (lv_at hl 4 rfl) ?_
          cases hf
          exact rt_i C hP hD hS dX6_step_197
        · have hf := if_f hs1 hf
          by_cases hs2 : p2 = (-1 : Int32)
          · have hf := if_t hs2 hf
            refine lv_tableIn (tgt := 198) (off := 35) hx hb dX6_step_163 (by rw [hs2]; decide) (by rw [hs2]; decide) (by rw [hs2]; decide) (by decide) ?_
            refine lv_aload_n hx hb dX6_step_198 rfl (lv_at hl 0 rfl) ?_
            refine va_get (D := G.1) (ci := 6) (v := .int k0_found) (C := RX6) (T := TX6) (N := 16) hx hb hts nX6_step_X6 hown hG.1 hP 0 rfl rfl 14 (by decide) (hts _ mX6_step_1) (fun _ h9 => h9) rfl dX6_step_199 ?_
            cases hf
            exact rt_i C hP hD hS dX6_step_202
          · have hf := if_f hs2 hf
            by_cases hs3 : p2 = (0 : Int32)
            · have hf := if_t hs3 hf
              refine lv_tableIn (tgt := 203) (off := 40) hx hb dX6_step_163 (by rw [hs3]; decide) (by rw [hs3]; decide) (by rw [hs3]; decide) (by decide) ?_
              refine lv_iload hx hb dX6_step_203 (lv_at hl 5 rfl) ?_
              cases hf
              exact rt_i C hP hD hS dX6_step_205
            · have hf := if_f hs3 hf
              refine lv_tableOut (tgt := 206) hx hb dX6_step_163 (sw_out (fun k h1 h2 => by rcases (show k = -3 ∨ k = -2 ∨ k = -1 ∨ k = 0 by omega) with rfl | rfl | rfl | rfl <;> first | exact hs0 | exact hs1 | exact hs2 | exact hs3)) (by decide) ?_
              refine lv_aload_n hx hb dX6_step_206 rfl (lv_at hl 0 rfl) ?_
              refine lv_iload_n hx hb dX6_step_207 rfl (lv_at hl 1 rfl) ?_
              refine lv_iconst (v := (1 : Int32)) hx hb dX6_step_208 (by decide) ?_
              refine lv_isub hx hb dX6_step_209 ?_
              obtain ⟨r3, hr3, hf⟩ := bd_use hf
              refine cl_V (wn := (wdX6_step G q0 q0_one q0_other q0_third q0_waysTo q0_poly q0_then q0_steps q0_sheet q0_next q0_wide q0_partOf q0_partTimes q0_foundAt k0_one k0_isParted k0_parts k0_found k0_foundAt)) (st1 := [.int r3]) C hP hD hS (tX6_foundBy l G q0 q0_one q0_other q0_third q0_waysTo q0_poly q0_then q0_steps q0_sheet q0_next q0_wide q0_partOf q0_partTimes q0_foundAt k0_isParted k0_parts k0_found k0_foundAt (p2 - (1 : Int32)) r3 hr3) (cwV 1 hts gX6_step_X6_foundBy rfl rfl rfl (by decide +kernel) ⟨Nat.le_of_ble_eq_true rfl, Nat.le_of_ble_eq_true rfl⟩) [0, 2] [1] [1, 0, 2] rfl rfl rfl rfl (by decide) rfl rfl (ci := 6) (q0 := 0) rfl rfl rfl rfl hl.1 rfl rfl (Nat.le_of_ble_eq_true rfl) dX6_step_210 (fun H locs hP hD hS => ?_)
              cases hf
              exact rt_i C hP hD hS dX6_step_213
    · have hf := if_f hc hf
      refine lv_aload_n hx hb dX6_step_112 rfl (lv_at hl 0 rfl) ?_
      refine va_get (D := G.1) (ci := 6) (v := .ref q0_one) (C := RX6) (T := TX6) (N := 16) hx hb hts nX6_step_X6 hown hG.1 hP 0 rfl rfl 0 (by decide) (hts _ mX6_step_0) (fun _ h9 => h9) rfl dX6_step_113 ?_
      refine lv_iload hx hb dX6_step_116 (lv_at hl 6 rfl) ?_
      refine lv_iload hx hb dX6_step_118 (lv_at hl 3 rfl) ?_
      obtain ⟨r4, hr4, hf⟩ := bd_use hf
      refine cl_S (wn := (wdX6_step G q0 q0_one q0_other q0_third q0_waysTo q0_poly q0_then q0_steps q0_sheet q0_next q0_wide q0_partOf q0_partTimes q0_foundAt r4 k0_isParted k0_parts k0_found k0_foundAt)) (st1 := []) C hP hD hS (tX6_exchange l G q0_one k0_one x7 x4 r4 hr4) (va_cwS 3 hts gX6_step_X6_exchange rfl rfl rfl (by decide +kernel) ⟨Nat.le_of_ble_eq_true rfl, Nat.le_of_ble_eq_true rfl⟩) [1] [0, 2] [0, 2, 1] rfl rfl rfl rfl (by decide) rfl rfl rfl hl.1 rfl rfl (Nat.le_of_ble_eq_true rfl) dX6_step_120 (fun H locs hP hD hS => ?_)
      refine lv_aload_n hx hb dX6_step_123 rfl (lv_at hl 0 rfl) ?_
      refine va_get (D := G.1) (ci := 6) (v := .ref q0_one) (C := RX6) (T := TX6) (N := 16) hx hb hts nX6_step_X6 hown hG.1 hP 0 rfl rfl 0 (by decide) (hts _ mX6_step_0) (fun _ h9 => h9) rfl dX6_step_124 ?_
      obtain ⟨r5, hr5, hf⟩ := bd_use hf
      refine cl_S (wn := (wdX6_step G q0 q0_one q0_other q0_third q0_waysTo q0_poly q0_then q0_steps q0_sheet q0_next q0_wide q0_partOf q0_partTimes q0_foundAt r4 k0_isParted k0_parts k0_found k0_foundAt)) (st1 := [.int r5]) C hP hD hS (tX6_lengthOf l G q0_one r4 r5 hr5) (va_cwS 1 hts gX6_step_X6_lengthOf rfl rfl rfl (by decide +kernel) ⟨Nat.le_of_ble_eq_true rfl, Nat.le_of_ble_eq_true rfl⟩) [1] [0, 2] [0, 2, 1] rfl rfl rfl rfl (by decide) rfl rfl rfl hl.1 rfl rfl (Nat.le_of_ble_eq_true rfl) dX6_step_127 (fun H locs hP hD hS => ?_)
      refine lv_iload_n hx hb dX6_step_130 rfl (lv_at hl 2 rfl) ?_
      refine lv_icmp_ne (tgt := 145) hx hb dX6_step_131 (by decide) (fun hc => ?_) (fun hc => ?_)
      · have hf := if_f hc hf
        exact wX6_step_145 C q0 q0_one q0_other q0_third q0_waysTo q0_poly q0_then q0_steps q0_sheet q0_next q0_wide q0_partOf q0_partTimes q0_foundAt k0_isParted k0_parts p1 p2 res (fX6_step_L105 p1 p2 n) ih r4 k0_found k0_foundAt x3 x4 x5 x6 x7 _ _ ls hf hP hD hS (lv_sub hl [0, 1, 2, 3, 4, 5, 6] rfl)
      · have hf := if_t hc hf
        refine lv_aload_n hx hb dX6_step_134 rfl (lv_at hl 0 rfl) ?_
        refine lv_aload_n hx hb dX6_step_135 rfl (lv_at hl 0 rfl) ?_
        refine va_get (D := G.1) (ci := 6) (v := .ref q0_one) (C := RX6) (T := TX6) (N := 16) hx hb hts nX6_step_X6 hown hG.1 hP 0 rfl rfl 0 (by decide) (hts _ mX6_step_0) (fun _ h9 => h9) rfl dX6_step_136 ?_
        obtain ⟨r6, hr6, hf⟩ := bd_use hf
        refine cl_S (wn := (wdX6_step G q0 q0_one q0_other q0_third q0_waysTo q0_poly q0_then q0_steps q0_sheet q0_next q0_wide q0_partOf q0_partTimes q0_foundAt r4 k0_isParted k0_parts k0_found k0_foundAt)) (st1 := [.int r6, .ref q0]) C hP hD hS (tX6_plainOf l G q0_one r4 r6 hr6) (va_cwS 1 hts gX6_step_X6_plainOf rfl rfl rfl (by decide +kernel) ⟨Nat.le_of_ble_eq_true rfl, Nat.le_of_ble_eq_true rfl⟩) [1] [0, 2] [0, 2, 1] rfl rfl rfl rfl (by decide) rfl rfl rfl hl.1 rfl rfl (Nat.le_of_ble_eq_true rfl) dX6_step_139 (fun H locs hP hD hS => ?_)
        obtain ⟨r7, hr7, hf⟩ := bd_use hf
        refine cl_V (wn := (wdX6_step G q0 q0_one q0_other q0_third q0_waysTo q0_poly q0_then q0_steps q0_sheet q0_next q0_wide q0_partOf q0_partTimes q0_foundAt r4 k0_isParted k0_parts r7.1 r7.2)) (st1 := []) C hP hD hS (tX6_finds l G q0 q0_one q0_other q0_third q0_waysTo q0_poly q0_then q0_steps q0_sheet q0_next q0_wide q0_partOf q0_partTimes q0_foundAt k0_isParted k0_parts k0_found k0_foundAt r6 r7 hr7) (cwV 1 hts gX6_step_X6_finds rfl rfl rfl (by decide +kernel) ⟨Nat.le_of_ble_eq_true rfl, Nat.le_of_ble_eq_true rfl⟩) [0, 2] [1] [1, 0, 2] rfl rfl rfl rfl (by decide) rfl rfl (ci := 6) (q0 := 0) rfl rfl rfl rfl hl.1 rfl rfl (Nat.le_of_ble_eq_true rfl) dX6_step_142 (fun H locs hP hD hS => ?_)
        exact wX6_step_145 C q0 q0_one q0_other q0_third q0_waysTo q0_poly q0_then q0_steps q0_sheet q0_next q0_wide q0_partOf q0_partTimes q0_foundAt k0_isParted k0_parts p1 p2 res (fX6_step_L105 p1 p2 n) ih r4 r7.1 r7.2 x3 x4 x5 x6 x7 _ _ ls hf hP hD hS (lv_sub hl [0, 1, 2, 3, 4, 5, 6] rfl)
set_option maxHeartbeats 4000000 in
set_option maxRecDepth 100000 in
theorem wX6_step_54 {p : Program} {l : Launch} {e : Env} {s : State} {m : MethodId} {args : Array Value} {below : List Frame} {meth : Method} {c : Code} {G : GX} {A : Nat → Prop} (C : Cx p s m args meth c cX6_step 8 (some .int) wsX6_step RX6 G A) (q0 : Nat) (q0_one : Nat) (q0_other : Nat) (q0_third : Nat) (q0_waysTo : Nat) (q0_poly : Nat) (q0_then : Nat) (q0_steps : Nat) (q0_sheet : Nat) (q0_next : Nat) (q0_wide : Nat) (q0_partOf : Nat) (q0_partTimes : Nat) (q0_foundAt : Nat) (k0_isParted : Int32) (k0_parts : Int32) (p1 : Int32) (p2 : Int32) (res : Int32 × (Nat → Int32) × Int32 × (Nat → Int32)) (n : Nat) : ∀ (k0_one : Nat → Int32) (k0_found : Int32) (k0_foundAt : Nat → Int32) (x3 : Int32) (x4 : Int32) (x5 : Int32) (H : Heap) (locs : List Loc) (ls : Array Slot), fX6_step_L54 p1 p2 n k0_one k0_found k0_foundAt x3 x4 x5 = some res → va_P G.1 vwCl (wdX6_step G q0 q0_one q0_other q0_third q0_waysTo q0_poly q0_then q0_steps q0_sheet q0_next q0_wide q0_partOf q0_partTimes q0_foundAt k0_one k0_isParted k0_parts k0_found k0_foundAt) H → va_D A (wdX6_step G q0 q0_one q0_other q0_third q0_waysTo q0_poly q0_then q0_steps q0_sheet q0_next q0_wide q0_partOf q0_partTimes q0_foundAt k0_one k0_isParted k0_parts k0_found k0_foundAt) → va_S A s.heap H locs → lv_has ls 8 [(0, .ref q0), (2, .int p2), (3, .int x3), (4, .int x4), (5, .int x5)] → glX6_step p l e s m args below meth c G A q0 q0_one q0_other q0_third q0_waysTo q0_poly q0_then q0_steps q0_sheet q0_next q0_wide q0_partOf q0_partTimes q0_foundAt k0_isParted k0_parts res H locs 54 ls [] := by
  obtain ⟨hx, hb, hml, hown, hts, hr, hlocks, hA, hG⟩ := id C
  induction n with
  | zero => intro k0_one k0_found k0_foundAt x3 x4 x5 H locs ls hf hP hD hS hl; cases hf
  | succ n ih =>
    intro k0_one k0_found k0_foundAt x3 x4 x5 H locs ls hf hP hD hS hl
    simp only [fX6_step_L54] at hf
    refine lv_aload_n hx hb dX6_step_54 rfl (lv_at hl 0 rfl) ?_
    refine va_get (D := G.1) (ci := 6) (v := .ref q0_one) (C := RX6) (T := TX6) (N := 16) hx hb hts nX6_step_X6 hown hG.1 hP 0 rfl rfl 0 (by decide) (hts _ mX6_step_0) (fun _ h9 => h9) rfl dX6_step_55 ?_
    refine lv_iload hx hb dX6_step_58 (lv_at hl 4 rfl) ?_
    obtain ⟨hin, hf⟩ := gI_use hf
    refine va_iald hx hb hG.1 hP 1 0 rfl rfl hin dX6_step_60 ?_
    refine lv_aload_n hx hb dX6_step_61 rfl (lv_at hl 0 rfl) ?_
    refine va_get (D := G.1) (ci := 6) (v := .ref q0_one) (C := RX6) (T := TX6) (N := 16) hx hb hts nX6_step_X6 hown hG.1 hP 0 rfl rfl 0 (by decide) (hts _ mX6_step_0) (fun _ h9 => h9) rfl dX6_step_62 ?_
    refine lv_iload hx hb dX6_step_65 (lv_at hl 3 rfl) ?_
    obtain ⟨hin, hf⟩ := gI_use hf
    refine va_iald hx hb hG.1 hP 1 0 rfl rfl hin dX6_step_67 ?_
    refine lv_icmp_lt (tgt := 77) hx hb dX6_step_68 (by decide) (fun hc => ?_) (fun hc => ?_)
    · have hf := if_t hc hf
      refine lv_aload_n hx hb dX6_step_77 rfl (lv_at hl 0 rfl) ?_
      refine va_get (D := G.1) (ci := 6) (v := .ref q0_one) (C := RX6) (T := TX6) (N := 16) hx hb hts nX6_step_X6 hown hG.1 hP 0 rfl rfl 0 (by decide) (hts _ mX6_step_0) (fun _ h9 => h9) rfl dX6_step_78 ?_
      refine lv_iload hx hb dX6_step_81 (lv_at hl 3 rfl) ?_
      refine lv_iload hx hb dX6_step_83 (lv_at hl 4 rfl) ?_
      obtain ⟨r10, hr10, hf⟩ := bd_use hf
      refine cl_S (wn := (wdX6_step G q0 q0_one q0_other q0_third q0_waysTo q0_poly q0_then q0_steps q0_sheet q0_next q0_wide q0_partOf q0_partTimes q0_foundAt r10 k0_isParted k0_parts k0_found k0_foundAt)) (st1 := []) C hP hD hS (tX6_exchange l G q0_one k0_one x4 x5 r10 hr10) (va_cwS 3 hts gX6_step_X6_exchange rfl rfl rfl (by decide +kernel) ⟨Nat.le_of_ble_eq_true rfl, Nat.le_of_ble_eq_true rfl⟩) [1] [0, 2] [0, 2, 1] rfl rfl rfl rfl (by decide) rfl rfl rfl hl.1 rfl rfl (Nat.le_of_ble_eq_true rfl) dX6_step_85 (fun H locs hP hD hS => ?_)
      refine lv_aload_n hx hb dX6_step_88 rfl (lv_at hl 0 rfl) ?_
      refine va_get (D := G.1) (ci := 6) (v := .ref q0_one) (C := RX6) (T := TX6) (N := 16) hx hb hts nX6_step_X6 hown hG.1 hP 0 rfl rfl 0 (by decide) (hts _ mX6_step_0) (fun _ h9 => h9) rfl dX6_step_89 ?_
      obtain ⟨r11, hr11, hf⟩ := bd_use hf
      refine cl_S (wn := (wdX6_step G q0 q0_one q0_other q0_third q0_waysTo q0_poly q0_then q0_steps q0_sheet q0_next q0_wide q0_partOf q0_partTimes q0_foundAt r10 k0_isParted k0_parts k0_found k0_foundAt)) (st1 := [.int r11]) C hP hD hS (tX6_plainOf l G q0_one r10 r11 hr11) (va_cwS 1 hts gX6_step_X6_plainOf rfl rfl rfl (by decide +kernel) ⟨Nat.le_of_ble_eq_true rfl, Nat.le_of_ble_eq_true rfl⟩) [1] [0, 2] [0, 2, 1] rfl rfl rfl rfl (by decide) rfl rfl rfl hl.1 rfl rfl (Nat.le_of_ble_eq_true rfl) dX6_step_92 (fun H locs hP hD hS => ?_)
      refine lv_istore (lv' := [(6, .int r11), (0, .ref q0), (2, .int p2), (3, .int x3), (4, .int x4), (5, .int x5)]) hx hb dX6_step_95 hl (by decide) rfl (fun ls hl => ?_)
      refine lv_aload_n hx hb dX6_step_97 rfl (lv_at hl 1 rfl) ?_
      refine lv_iconst (v := (0 : Int32)) hx hb dX6_step_98 (by decide) ?_
      refine va_put (D := G.1) (ci := 6) (v := .int (0 : Int32)) (ty := .int) (C := RX6) (T := TX6) (N := 16) hx hb hts nX6_step_X6 tyX6 tyX6_ok nmX6 hown hG.1 hP hD hS 0 rfl rfl 14 (by decide) (hts _ mX6_step_1) (fun _ h9 => h9) rfl (by decide +kernel) rfl rfl (Nat.le_of_ble_eq_true rfl) dX6_step_99 (fun H locs hP hD hS => ?_)
      have hP : va_P G.1 vwCl (wdX6_step G q0 q0_one q0_other q0_third q0_waysTo q0_poly q0_then q0_steps q0_sheet q0_next q0_wide q0_partOf q0_partTimes q0_foundAt r10 k0_isParted k0_parts (0 : Int32) k0_foundAt) H := hP
      have hD : va_D A (wdX6_step G q0 q0_one q0_other q0_third q0_waysTo q0_poly q0_then q0_steps q0_sheet q0_next q0_wide q0_partOf q0_partTimes q0_foundAt r10 k0_isParted k0_parts (0 : Int32) k0_foundAt) := hD
      refine lv_iconst (v := (1 : Int32)) hx hb dX6_step_102 (by decide) ?_
      refine lv_istore (lv' := [(7, .int (1 : Int32)), (6, .int r11), (0, .ref q0), (2, .int p2), (3, .int x3), (4, .int x4), (5, .int x5)]) hx hb dX6_step_103 hl (by decide) rfl (fun ls hl => ?_)
      exact wX6_step_105 C q0 q0_one q0_other q0_third q0_waysTo q0_poly q0_then q0_steps q0_sheet q0_next q0_wide q0_partOf q0_partTimes q0_foundAt k0_isParted k0_parts p1 p2 res fu r10 (0 : Int32) k0_foundAt x3 x4 x5 r11 (1 : Int32) _ _ ls hf hP hD hS (lv_sub hl [2, 3, 4, 5, 6, 1, 0] rfl)
    · have hf := if_f hc hf
      obtain ⟨y12, ey12⟩ : ∃ z : Int32, z = x5 + (-1 : Int32) := ⟨_, rfl⟩
      have hf := nm_use ey12 hf
      refine lv_iinc (v := y12) (lv' := [(5, .int y12), (0, .ref q0), (2, .int p2), (3, .int x3), (4, .int x4)]) hx hb dX6_step_71 hl (k := 4) rfl (by rw [ey12]; rfl) (by decide) rfl (fun ls hl => ?_)
      refine lv_goto (tgt := 54) hx hb dX6_step_74 (by decide) ?_
      exact ih k0_one k0_found k0_foundAt x3 x4 y12 _ _ ls hf hP hD hS (lv_sub hl [1, 2, 3, 4, 0] rfl)
set_option maxHeartbeats 4000000 in
set_option maxRecDepth 100000 in
theorem tX6_step (l : Launch) (G : GX) (q0 : Nat) (q0_one : Nat) (q0_other : Nat) (q0_third : Nat) (q0_waysTo : Nat) (q0_poly : Nat) (q0_then : Nat) (q0_steps : Nat) (q0_sheet : Nat) (q0_next : Nat) (q0_wide : Nat) (q0_partOf : Nat) (q0_partTimes : Nat) (q0_foundAt : Nat) (k0_one : Nat → Int32) (k0_isParted : Int32) (k0_parts : Int32) (k0_found : Int32) (k0_foundAt : Nat → Int32) (p1 : Int32) (p2 : Int32) (res : Int32 × (Nat → Int32) × Int32 × (Nat → Int32)) (hf : fX6_step k0_one k0_found k0_foundAt p1 p2 = some res) : Ct l yX6_step wsX6_step rmX6_step G [.ref q0, .int p1, .int p2] (wdX6_step G q0 q0_one q0_other q0_third q0_waysTo q0_poly q0_then q0_steps q0_sheet q0_next q0_wide q0_partOf q0_partTimes q0_foundAt k0_one k0_isParted k0_parts k0_found k0_foundAt) (wdX6_step G q0 q0_one q0_other q0_third q0_waysTo q0_poly q0_then q0_steps q0_sheet q0_next q0_wide q0_partOf q0_partTimes q0_foundAt res.2.1 k0_isParted k0_parts res.2.2.1 res.2.2.2) (some (.int res.1)) := by
  refine Ct.of (cc := cX6_step) (nL := 8) (ret := (some .int)) (by decide) rfl (Nat.le_of_ble_eq_true rfl) rfl ?_
  intro p e s m below meth c A ls C hP hD hl
  obtain ⟨hx, hb, hml, hown, hts, hr, hlocks, hA, hG⟩ := id C
  have hS : va_S A s.heap s.heap [] := va_S.rf
  unfold fX6_step at hf
  refine lv_iload_n hx hb dX6_step_0 rfl (lv_at hl 1 rfl) ?_
  refine lv_aload_n hx hb dX6_step_1 rfl (lv_at hl 0 rfl) ?_
  refine va_get (D := G.1) (ci := 6) (v := .ref q0_one) (C := RX6) (T := TX6) (N := 16) hx hb hts nX6_step_X6 hown hG.1 hP 0 rfl rfl 0 (by decide) (hts _ mX6_step_0) (fun _ h9 => h9) rfl dX6_step_2 ?_
  obtain ⟨r13, hr13, hf⟩ := bd_use hf
  refine cl_S (wn := (wdX6_step G q0 q0_one q0_other q0_third q0_waysTo q0_poly q0_then q0_steps q0_sheet q0_next q0_wide q0_partOf q0_partTimes q0_foundAt r13.2 k0_isParted k0_parts k0_found k0_foundAt)) (st1 := [.int r13.1]) C hP hD hS (tX6_lays l G q0_one k0_one p1 r13 hr13) (va_cwS 2 hts gX6_step_X6_lays rfl rfl rfl (by decide +kernel) ⟨Nat.le_of_ble_eq_true rfl, Nat.le_of_ble_eq_true rfl⟩) [1] [0, 2] [0, 2, 1] rfl rfl rfl rfl (by decide) rfl rfl rfl hl.1 rfl rfl (Nat.le_of_ble_eq_true rfl) dX6_step_5 (fun H locs hP hD hS => ?_)
  refine lv_if_eq (tgt := 17) hx hb dX6_step_8 (by decide) (fun hc => ?_) (fun hc => ?_)
  · have hf := if_t hc hf
    refine lv_bipush (v := (-2 : Int32)) hx hb dX6_step_17 (by decide) ?_
    cases hf
    exact rt_i C hP hD hS dX6_step_19
  · have hf := if_f hc hf
    refine lv_iload_n hx hb dX6_step_11 rfl (lv_at hl 2 rfl) ?_
    refine lv_bipush (v := (-3 : Int32)) hx hb dX6_step_12 (by decide) ?_
    refine lv_icmp_ge (tgt := 20) hx hb dX6_step_14 (by decide) (fun hc => ?_) (fun hc => ?_)
    · have hf := if_t hc hf
      refine lv_aload_n hx hb dX6_step_20 rfl (lv_at hl 0 rfl) ?_
      refine va_get (D := G.1) (ci := 6) (v := .ref q0_one) (C := RX6) (T := TX6) (N := 16) hx hb hts nX6_step_X6 hown hG.1 hP 0 rfl rfl 0 (by decide) (hts _ mX6_step_0) (fun _ h9 => h9) rfl dX6_step_21 ?_
      obtain ⟨r14, hr14, hf⟩ := bd_use hf
      refine cl_S (wn := (wdX6_step G q0 q0_one q0_other q0_third q0_waysTo q0_poly q0_then q0_steps q0_sheet q0_next q0_wide q0_partOf q0_partTimes q0_foundAt r13.2 k0_isParted k0_parts k0_found k0_foundAt)) (st1 := [.int r14]) C hP hD hS (tX6_descentsOf l G q0_one r13.2 r14 hr14) (va_cwS 1 hts gX6_step_X6_descentsOf rfl rfl rfl (by decide +kernel) ⟨Nat.le_of_ble_eq_true rfl, Nat.le_of_ble_eq_true rfl⟩) [1] [0, 2] [0, 2, 1] rfl rfl rfl rfl (by decide) rfl rfl rfl hl.1 rfl rfl (Nat.le_of_ble_eq_true rfl) dX6_step_24 (fun H locs hP hD hS => ?_)
      refine lv_if_ne (tgt := 33) hx hb dX6_step_27 (by decide) (fun hc => ?_) (fun hc => ?_)
      · have hf := if_f hc hf
        refine lv_aload_n hx hb dX6_step_33 rfl (lv_at hl 0 rfl) ?_
        refine va_get (D := G.1) (ci := 6) (v := .ref q0_one) (C := RX6) (T := TX6) (N := 16) hx hb hts nX6_step_X6 hown hG.1 hP 0 rfl rfl 0 (by decide) (hts _ mX6_step_0) (fun _ h9 => h9) rfl dX6_step_34 ?_
        obtain ⟨r15, hr15, hf⟩ := bd_use hf
        refine cl_S (wn := (wdX6_step G q0 q0_one q0_other q0_third q0_waysTo q0_poly q0_then q0_steps q0_sheet q0_next q0_wide q0_partOf q0_partTimes q0_foundAt r13.2 k0_isParted k0_parts k0_found k0_foundAt)) (st1 := [.int r15]) C hP hD hS (tX6_lengthOf l G q0_one r13.2 r15 hr15) (va_cwS 1 hts gX6_step_X6_lengthOf rfl rfl rfl (by decide +kernel) ⟨Nat.le_of_ble_eq_true rfl, Nat.le_of_ble_eq_true rfl⟩) [1] [0, 2] [0, 2, 1] rfl rfl rfl rfl (by decide) rfl rfl rfl hl.1 rfl rfl (Nat.le_of_ble_eq_true rfl) dX6_step_37 (fun H locs hP hD hS => ?_)
        refine lv_istore_n (lv' := [(3, .int r15), (0, .ref q0), (1, .int p1), (2, .int p2)]) hx hb dX6_step_40 rfl hl (by decide) rfl (fun ls hl => ?_)
        refine lv_aload_n hx hb dX6_step_41 rfl (lv_at hl 1 rfl) ?_
        refine va_get (D := G.1) (ci := 6) (v := .ref q0_one) (C := RX6) (T := TX6) (N := 16) hx hb hts nX6_step_X6 hown hG.1 hP 0 rfl rfl 0 (by decide) (hts _ mX6_step_0) (fun _ h9 => h9) rfl dX6_step_42 ?_
        obtain ⟨r16, hr16, hf⟩ := bd_use hf
        refine cl_S (wn := (wdX6_step G q0 q0_one q0_other q0_third q0_waysTo q0_poly q0_then q0_steps q0_sheet q0_next q0_wide q0_partOf q0_partTimes q0_foundAt r13.2 k0_isParted k0_parts k0_found k0_foundAt)) (st1 := [.int r16]) C hP hD hS (tX6_lastDescent l G q0_one r13.2 r16 hr16) (va_cwS 1 hts gX6_step_X6_lastDescent rfl rfl rfl (by decide +kernel) ⟨Nat.le_of_ble_eq_true rfl, Nat.le_of_ble_eq_true rfl⟩) [1] [0, 2] [0, 2, 1] rfl rfl rfl rfl (by decide) rfl rfl rfl hl.1 rfl rfl (Nat.le_of_ble_eq_true rfl) dX6_step_45 (fun H locs hP hD hS => ?_)
        refine lv_istore (lv' := [(4, .int r16), (3, .int r15), (0, .ref q0), (1, .int p1), (2, .int p2)]) hx hb dX6_step_48 hl (by decide) rfl (fun ls hl => ?_)
        refine lv_bipush (v := (9 : Int32)) hx hb dX6_step_50 (by decide) ?_
        refine lv_istore (lv' := [(5, .int (9 : Int32)), (4, .int r16), (3, .int r15), (0, .ref q0), (1, .int p1), (2, .int p2)]) hx hb dX6_step_52 hl (by decide) rfl (fun ls hl => ?_)
        exact wX6_step_54 C q0 q0_one q0_other q0_third q0_waysTo q0_poly q0_then q0_steps q0_sheet q0_next q0_wide q0_partOf q0_partTimes q0_foundAt k0_isParted k0_parts p1 p2 res fu r13.2 k0_found k0_foundAt r15 r16 (9 : Int32) _ _ ls hf hP hD hS (lv_sub hl [3, 5, 2, 1, 0] rfl)
      · have hf := if_t hc hf
        refine lv_bipush (v := (-3 : Int32)) hx hb dX6_step_30 (by decide) ?_
        cases hf
        exact rt_i C hP hD hS dX6_step_32
    · have hf := if_f hc hf
      refine lv_bipush (v := (-2 : Int32)) hx hb dX6_step_17 (by decide) ?_
      cases hf
      exact rt_i C hP hD hS dX6_step_19
abbrev wdX6_shape (G : GX) (q0 : Nat) (q0_one : Nat) (q0_other : Nat) (q0_third : Nat) (q0_waysTo : Nat) (q0_poly : Nat) (q0_then : Nat) (q0_steps : Nat) (q0_sheet : Nat) (q0_next : Nat) (q0_wide : Nat) (q0_partOf : Nat) (q0_partTimes : Nat) (q0_foundAt : Nat) (k0_one : Nat → Int32) (k0_isParted : Int32) (k0_parts : Int32) (k0_found : Int32) : va_W := [(q0, .inr (6, [.ref q0_one, .ref q0_other, .ref q0_third, .ref q0_waysTo, .ref q0_poly, .ref q0_then, .ref q0_steps, .ref q0_sheet, .ref q0_next, .int k0_isParted, .ref q0_wide, .int k0_parts, .ref q0_partOf, .ref q0_partTimes, .int k0_found, .ref q0_foundAt])), (q0_one, .inl (G.2.1, 10, .inl k0_one))]
abbrev rmX6_shape : Room := { frames := 2, cells := 0, slots := 0, locals := 48 }
abbrev glX6_shape (p : Program) (l : Launch) (e : Env) (s : State) (m : MethodId) (args : Array Value) (below : List Frame) (meth : Method) (c : Code) (G : GX) (A : Nat → Prop) (q0 : Nat) (q0_one : Nat) (q0_other : Nat) (q0_third : Nat) (q0_waysTo : Nat) (q0_poly : Nat) (q0_then : Nat) (q0_steps : Nat) (q0_sheet : Nat) (q0_next : Nat) (q0_wide : Nat) (q0_partOf : Nat) (q0_partTimes : Nat) (q0_foundAt : Nat) (k0_isParted : Int32) (k0_parts : Int32) (k0_found : Int32) (res : Int32 × (Nat → Int32)) (H : Heap) (locs : List Loc) (pc : Nat) (ls : Array Slot) (st : List Value) : Prop := W p l e rmX6_shape s m args below meth c H locs 0 0 (MQ below (ctQ G A (wdX6_shape G q0 q0_one q0_other q0_third q0_waysTo q0_poly q0_then q0_steps q0_sheet q0_next q0_wide q0_partOf q0_partTimes q0_foundAt res.2 k0_isParted k0_parts k0_found) (some (.int res.1))) args s 0 0 A) (F0 m pc ls st)
set_option maxRecDepth 20000 in
theorem mX6_shape_0 : Cond.fieldLink RX6 7 "SchubertDeskModel" "one" "[I" ∈ wsX6_shape := by decide +kernel
set_option maxRecDepth 20000 in
theorem nX6_shape_X6 : ∀ w ∈ u_ws RX6 TX6 16, w ∈ wsX6_shape := by decide +kernel
set_option maxHeartbeats 4000000 in
set_option maxRecDepth 100000 in
theorem tX6_shape (l : Launch) (G : GX) (q0 : Nat) (q0_one : Nat) (q0_other : Nat) (q0_third : Nat) (q0_waysTo : Nat) (q0_poly : Nat) (q0_then : Nat) (q0_steps : Nat) (q0_sheet : Nat) (q0_next : Nat) (q0_wide : Nat) (q0_partOf : Nat) (q0_partTimes : Nat) (q0_foundAt : Nat) (k0_one : Nat → Int32) (k0_isParted : Int32) (k0_parts : Int32) (k0_found : Int32) (p1 : Int32) (p2 : Int32) (res : Int32 × (Nat → Int32)) (hf : fX6_shape k0_one p1 p2 = some res) : Ct l yX6_shape wsX6_shape rmX6_shape G [.ref q0, .int p1, .int p2] (wdX6_shape G q0 q0_one q0_other q0_third q0_waysTo q0_poly q0_then q0_steps q0_sheet q0_next q0_wide q0_partOf q0_partTimes q0_foundAt k0_one k0_isParted k0_parts k0_found) (wdX6_shape G q0 q0_one q0_other q0_third q0_waysTo q0_poly q0_then q0_steps q0_sheet q0_next q0_wide q0_partOf q0_partTimes q0_foundAt res.2 k0_isParted k0_parts k0_found) (some (.int res.1)) := by
  refine Ct.of (cc := cX6_shape) (nL := 5) (ret := (some .int)) (by decide) rfl (Nat.le_of_ble_eq_true rfl) rfl ?_
  intro p e s m below meth c A ls C hP hD hl
  obtain ⟨hx, hb, hml, hown, hts, hr, hlocks, hA, hG⟩ := id C
  have hS : va_S A s.heap s.heap [] := va_S.rf
  unfold fX6_shape at hf
  refine lv_iload_n hx hb dX6_shape_0 rfl (lv_at hl 1 rfl) ?_
  refine lv_aload_n hx hb dX6_shape_1 rfl (lv_at hl 0 rfl) ?_
  refine va_get (D := G.1) (ci := 6) (v := .ref q0_one) (C := RX6) (T := TX6) (N := 16) hx hb hts nX6_shape_X6 hown hG.1 hP 0 rfl rfl 0 (by decide) (hts _ mX6_shape_0) (fun _ h9 => h9) rfl dX6_shape_2 ?_
  obtain ⟨r1, hr1, hf⟩ := bd_use hf
  refine cl_S (wn := (wdX6_shape G q0 q0_one q0_other q0_third q0_waysTo q0_poly q0_then q0_steps q0_sheet q0_next q0_wide q0_partOf q0_partTimes q0_foundAt r1.2 k0_isParted k0_parts k0_found)) (st1 := [.int r1.1]) C hP hD hS (tX6_lays l G q0_one k0_one p1 r1 hr1) (va_cwS 2 hts gX6_shape_X6_lays rfl rfl rfl (by decide +kernel) ⟨Nat.le_of_ble_eq_true rfl, Nat.le_of_ble_eq_true rfl⟩) [1] [0] [0, 1] rfl rfl rfl rfl (by decide) rfl rfl rfl hl.1 rfl rfl (Nat.le_of_ble_eq_true rfl) dX6_shape_5 (fun H locs hP hD hS => ?_)
  refine lv_if_eq (tgt := 16) hx hb dX6_shape_8 (by decide) (fun hc => ?_) (fun hc => ?_)
  · have hf := if_t hc hf
    refine lv_bipush (v := (-2 : Int32)) hx hb dX6_shape_16 (by decide) ?_
    cases hf
    exact rt_i C hP hD hS dX6_shape_18
  · have hf := if_f hc hf
    refine lv_iload_n hx hb dX6_shape_11 rfl (lv_at hl 2 rfl) ?_
    refine lv_iconst (v := (1 : Int32)) hx hb dX6_shape_12 (by decide) ?_
    refine lv_icmp_ge (tgt := 19) hx hb dX6_shape_13 (by decide) (fun hc => ?_) (fun hc => ?_)
    · have hf := if_t hc hf
      refine lv_aload_n hx hb dX6_shape_19 rfl (lv_at hl 0 rfl) ?_
      refine va_get (D := G.1) (ci := 6) (v := .ref q0_one) (C := RX6) (T := TX6) (N := 16) hx hb hts nX6_shape_X6 hown hG.1 hP 0 rfl rfl 0 (by decide) (hts _ mX6_shape_0) (fun _ h9 => h9) rfl dX6_shape_20 ?_
      obtain ⟨r2, hr2, hf⟩ := bd_use hf
      refine cl_S (wn := (wdX6_shape G q0 q0_one q0_other q0_third q0_waysTo q0_poly q0_then q0_steps q0_sheet q0_next q0_wide q0_partOf q0_partTimes q0_foundAt r1.2 k0_isParted k0_parts k0_found)) (st1 := [.int r2]) C hP hD hS (tX6_descentsOf l G q0_one r1.2 r2 hr2) (va_cwS 1 hts gX6_shape_X6_descentsOf rfl rfl rfl (by decide +kernel) ⟨Nat.le_of_ble_eq_true rfl, Nat.le_of_ble_eq_true rfl⟩) [1] [0] [0, 1] rfl rfl rfl rfl (by decide) rfl rfl rfl hl.1 rfl rfl (Nat.le_of_ble_eq_true rfl) dX6_shape_23 (fun H locs hP hD hS => ?_)
      refine lv_istore_n (lv' := [(3, .int r2), (0, .ref q0), (1, .int p1), (2, .int p2)]) hx hb dX6_shape_26 rfl hl (by decide) rfl (fun ls hl => ?_)
      refine lv_iload_n hx hb dX6_shape_27 rfl (lv_at hl 0 rfl) ?_
      refine lv_if_eq (tgt := 39) hx hb dX6_shape_28 (by decide) (fun hc => ?_) (fun hc => ?_)
      · have hf := if_t hc hf
        refine lv_bipush (v := (-3 : Int32)) hx hb dX6_shape_39 (by decide) ?_
        cases hf
        exact rt_i C hP hD hS dX6_shape_41
      · have hf := if_f hc hf
        refine lv_iload_n hx hb dX6_shape_31 rfl (lv_at hl 0 rfl) ?_
        refine lv_iload_n hx hb dX6_shape_32 rfl (lv_at hl 0 rfl) ?_
        refine lv_iconst (v := (1 : Int32)) hx hb dX6_shape_33 (by decide) ?_
        refine lv_isub hx hb dX6_shape_34 ?_
        refine lv_iand hx hb dX6_shape_35 ?_
        refine lv_if_eq (tgt := 42) hx hb dX6_shape_36 (by decide) (fun hc => ?_) (fun hc => ?_)
        · have hf := if_t hc hf
          refine lv_aload_n hx hb dX6_shape_42 rfl (lv_at hl 1 rfl) ?_
          refine va_get (D := G.1) (ci := 6) (v := .ref q0_one) (C := RX6) (T := TX6) (N := 16) hx hb hts nX6_shape_X6 hown hG.1 hP 0 rfl rfl 0 (by decide) (hts _ mX6_shape_0) (fun _ h9 => h9) rfl dX6_shape_43 ?_
          obtain ⟨r3, hr3, hf⟩ := bd_use hf
          refine cl_S (wn := (wdX6_shape G q0 q0_one q0_other q0_third q0_waysTo q0_poly q0_then q0_steps q0_sheet q0_next q0_wide q0_partOf q0_partTimes q0_foundAt r1.2 k0_isParted k0_parts k0_found)) (st1 := [.int r3]) C hP hD hS (tX6_lastDescent l G q0_one r1.2 r3 hr3) (va_cwS 1 hts gX6_shape_X6_lastDescent rfl rfl rfl (by decide +kernel) ⟨Nat.le_of_ble_eq_true rfl, Nat.le_of_ble_eq_true rfl⟩) [1] [0] [0, 1] rfl rfl rfl rfl (by decide) rfl rfl rfl hl.1 rfl rfl (Nat.le_of_ble_eq_true rfl) dX6_shape_46 (fun H locs hP hD hS => ?_)
          refine lv_istore (lv' := [(4, .int r3), (3, .int r2), (0, .ref q0), (1, .int p1), (2, .int p2)]) hx hb dX6_shape_49 hl (by decide) rfl (fun ls hl => ?_)
          refine lv_iload_n hx hb dX6_shape_51 rfl (lv_at hl 4 rfl) ?_
          refine lv_iload hx hb dX6_shape_52 (lv_at hl 0 rfl) ?_
          refine lv_icmp_gt (tgt := 78) hx hb dX6_shape_54 (by decide) (fun hc => ?_) (fun hc => ?_)
          · have hf := if_t hc hf
            refine lv_bipush (v := (-9 : Int32)) hx hb dX6_shape_78 (by decide) ?_
            cases hf
            exact rt_i C hP hD hS dX6_shape_80
          · have hf := if_f hc hf
            refine lv_aload_n hx hb dX6_shape_57 rfl (lv_at hl 2 rfl) ?_
            refine va_get (D := G.1) (ci := 6) (v := .ref q0_one) (C := RX6) (T := TX6) (N := 16) hx hb hts nX6_shape_X6 hown hG.1 hP 0 rfl rfl 0 (by decide) (hts _ mX6_shape_0) (fun _ h9 => h9) rfl dX6_shape_58 ?_
            refine lv_iload hx hb dX6_shape_61 (lv_at hl 0 rfl) ?_
            refine lv_iconst (v := (1 : Int32)) hx hb dX6_shape_63 (by decide) ?_
            refine lv_iadd hx hb dX6_shape_64 ?_
            refine lv_iload_n hx hb dX6_shape_65 rfl (lv_at hl 4 rfl) ?_
            refine lv_isub hx hb dX6_shape_66 ?_
            obtain ⟨hin, hf⟩ := gI_use hf
            refine va_iald hx hb hG.1 hP 1 0 rfl rfl hin dX6_shape_67 ?_
            refine lv_iload hx hb dX6_shape_68 (lv_at hl 0 rfl) ?_
            refine lv_iconst (v := (1 : Int32)) hx hb dX6_shape_70 (by decide) ?_
            refine lv_iadd hx hb dX6_shape_71 ?_
            refine lv_iload_n hx hb dX6_shape_72 rfl (lv_at hl 4 rfl) ?_
            refine lv_isub hx hb dX6_shape_73 ?_
            refine lv_isub hx hb dX6_shape_74 ?_
            refine lv_goto (tgt := 80) hx hb dX6_shape_75 (by decide) ?_
            cases hf
            exact rt_i C hP hD hS dX6_shape_80
        · have hf := if_f hc hf
          refine lv_bipush (v := (-3 : Int32)) hx hb dX6_shape_39 (by decide) ?_
          cases hf
          exact rt_i C hP hD hS dX6_shape_41
    · have hf := if_f hc hf
      refine lv_bipush (v := (-2 : Int32)) hx hb dX6_shape_16 (by decide) ?_
      cases hf
      exact rt_i C hP hD hS dX6_shape_18
abbrev wdX6_hasThree (G : GX) (q0 : Nat) (k0 : Nat → Int32) : va_W := [(q0, .inl (G.2.1, 10, .inl k0))]
abbrev rmX6_hasThree : Room := { frames := 0, cells := 0, slots := 0, locals := 0 }
abbrev glX6_hasThree (p : Program) (l : Launch) (e : Env) (s : State) (m : MethodId) (args : Array Value) (below : List Frame) (meth : Method) (c : Code) (G : GX) (A : Nat → Prop) (q0 : Nat) (k0 : Nat → Int32) (res : Int32) (H : Heap) (locs : List Loc) (pc : Nat) (ls : Array Slot) (st : List Value) : Prop := W p l e rmX6_hasThree s m args below meth c H locs 0 0 (MQ below (ctQ G A (wdX6_hasThree G q0 k0) (some (.int res))) args s 0 0 A) (F0 m pc ls st)
set_option maxHeartbeats 4000000 in
set_option maxRecDepth 100000 in
theorem wX6_hasThree_4 {p : Program} {l : Launch} {e : Env} {s : State} {m : MethodId} {args : Array Value} {below : List Frame} {meth : Method} {c : Code} {G : GX} {A : Nat → Prop} (C : Cx p s m args meth c cX6_hasThree 6 (some .boolean) wsX6_hasThree RX6 G A) (q0 : Nat) (k0 : Nat → Int32) (res : Int32) (n : Nat) : ∀ (x1 : Int32) (x2 : Int32) (H : Heap) (locs : List Loc) (ls : Array Slot), fX6_hasThree_L4 k0 n x1 x2 = some res → va_P G.1 vwCl (wdX6_hasThree G q0 k0) H → va_D A (wdX6_hasThree G q0 k0) → va_S A s.heap H locs → lv_has ls 6 [(0, .ref q0), (1, .int x1), (2, .int x2)] → glX6_hasThree p l e s m args below meth c G A q0 k0 res H locs 4 ls [] := by
  obtain ⟨hx, hb, hml, hown, hts, hr, hlocks, hA, hG⟩ := id C
  induction n with
  | zero => intro x1 x2 H locs ls hf hP hD hS hl; cases hf
  | succ n ih =>
    intro x1 x2 H locs ls hf hP hD hS hl
    simp only [fX6_hasThree_L4] at hf
    refine lv_iload_n hx hb dX6_hasThree_4 rfl (lv_at hl 2 rfl) ?_
    refine lv_sipush (v := (729 : Int32)) hx hb dX6_hasThree_5 (by decide) ?_
    refine lv_icmp_ge (tgt := 87) hx hb dX6_hasThree_8 (by decide) (fun hc => ?_) (fun hc => ?_)
    · have hf := if_t hc hf
      refine lv_iload_n hx hb dX6_hasThree_87 rfl (lv_at hl 1 rfl) ?_
      obtain ⟨hz, hf⟩ := bz_use hf
      cases hf
      exact rt_z C hz hP hD hS dX6_hasThree_88
    · have hf := if_f hc hf
      refine lv_iload_n hx hb dX6_hasThree_11 rfl (lv_at hl 2 rfl) ?_
      refine lv_bipush (v := (81 : Int32)) hx hb dX6_hasThree_12 (by decide) ?_
      refine lv_idiv hx hb dX6_hasThree_14 (by decide) ?_
      refine lv_iconst (v := (1 : Int32)) hx hb dX6_hasThree_15 (by decide) ?_
      refine lv_iadd hx hb dX6_hasThree_16 ?_
      refine lv_topi (fun y1 ey1 => ?_)
      have hf := nm_use ey1 hf
      refine lv_istore_n (lv' := [(3, .int y1), (0, .ref q0), (1, .int x1), (2, .int x2)]) hx hb dX6_hasThree_17 rfl hl (by decide) rfl (fun ls hl => ?_)
      refine lv_iload_n hx hb dX6_hasThree_18 rfl (lv_at hl 3 rfl) ?_
      refine lv_bipush (v := (9 : Int32)) hx hb dX6_hasThree_19 (by decide) ?_
      refine lv_idiv hx hb dX6_hasThree_21 (by decide) ?_
      refine lv_bipush (v := (9 : Int32)) hx hb dX6_hasThree_22 (by decide) ?_
      refine lv_irem hx hb dX6_hasThree_24 (by decide) ?_
      refine lv_iconst (v := (1 : Int32)) hx hb dX6_hasThree_25 (by decide) ?_
      refine lv_iadd hx hb dX6_hasThree_26 ?_
      refine lv_topi (fun y2 ey2 => ?_)
      have hf := nm_use ey2 hf
      refine lv_istore (lv' := [(4, .int y2), (3, .int y1), (0, .ref q0), (1, .int x1), (2, .int x2)]) hx hb dX6_hasThree_27 hl (by decide) rfl (fun ls hl => ?_)
      refine lv_iload_n hx hb dX6_hasThree_29 rfl (lv_at hl 4 rfl) ?_
      refine lv_bipush (v := (9 : Int32)) hx hb dX6_hasThree_30 (by decide) ?_
      refine lv_irem hx hb dX6_hasThree_32 (by decide) ?_
      refine lv_iconst (v := (1 : Int32)) hx hb dX6_hasThree_33 (by decide) ?_
      refine lv_iadd hx hb dX6_hasThree_34 ?_
      refine lv_topi (fun y3 ey3 => ?_)
      have hf := nm_use ey3 hf
      refine lv_istore (lv' := [(5, .int y3), (4, .int y2), (3, .int y1), (0, .ref q0), (1, .int x1), (2, .int x2)]) hx hb dX6_hasThree_35 hl (by decide) rfl (fun ls hl => ?_)
      refine lv_iload_n hx hb dX6_hasThree_37 rfl (lv_at hl 4 rfl) ?_
      refine lv_if_ne (tgt := 75) hx hb dX6_hasThree_38 (by decide) (fun hc => ?_) (fun hc => ?_)
      · have hf := if_f hc hf
        refine lv_iconst (v := (1 : Int32)) hx hb dX6_hasThree_75 (by decide) ?_
        refine lv_goto (tgt := 80) hx hb dX6_hasThree_76 (by decide) ?_
        refine lv_istore_n (lv' := [(1, .int (1 : Int32)), (5, .int y3), (4, .int y2), (3, .int y1), (0, .ref q0), (2, .int x2)]) hx hb dX6_hasThree_80 rfl hl (by decide) rfl (fun ls hl => ?_)
        obtain ⟨y4, ey4⟩ : ∃ z : Int32, z = x2 + (1 : Int32) := ⟨_, rfl⟩
        have hf := nm_use ey4 hf
        refine lv_iinc (v := y4) (lv' := [(2, .int y4), (1, .int (1 : Int32)), (5, .int y3), (4, .int y2), (3, .int y1), (0, .ref q0)]) hx hb dX6_hasThree_81 hl (k := 5) rfl (by rw [ey4]; rfl) (by decide) rfl (fun ls hl => ?_)
        refine lv_goto (tgt := 4) hx hb dX6_hasThree_84 (by decide) ?_
        exact ih (1 : Int32) y4 _ _ ls hf hP hD hS (lv_sub hl [5, 1, 0] rfl)
      · have hf := if_t hc hf
        refine lv_iload_n hx hb dX6_hasThree_41 rfl (lv_at hl 2 rfl) ?_
        refine lv_iload hx hb dX6_hasThree_42 (lv_at hl 1 rfl) ?_
        refine lv_icmp_ge (tgt := 79) hx hb dX6_hasThree_44 (by decide) (fun hc => ?_) (fun hc => ?_)
        · have hf := if_t hc hf
          refine lv_iconst (v := (0 : Int32)) hx hb dX6_hasThree_79 (by decide) ?_
          refine lv_istore_n (lv' := [(1, .int (0 : Int32)), (5, .int y3), (4, .int y2), (3, .int y1), (0, .ref q0), (2, .int x2)]) hx hb dX6_hasThree_80 rfl hl (by decide) rfl (fun ls hl => ?_)
          obtain ⟨y5, ey5⟩ : ∃ z : Int32, z = x2 + (1 : Int32) := ⟨_, rfl⟩
          have hf := nm_use ey5 hf
          refine lv_iinc (v := y5) (lv' := [(2, .int y5), (1, .int (0 : Int32)), (5, .int y3), (4, .int y2), (3, .int y1), (0, .ref q0)]) hx hb dX6_hasThree_81 hl (k := 5) rfl (by rw [ey5]; rfl) (by decide) rfl (fun ls hl => ?_)
          refine lv_goto (tgt := 4) hx hb dX6_hasThree_84 (by decide) ?_
          exact ih (0 : Int32) y5 _ _ ls hf hP hD hS (lv_sub hl [5, 1, 0] rfl)
        · have hf := if_f hc hf
          refine lv_iload hx hb dX6_hasThree_47 (lv_at hl 1 rfl) ?_
          refine lv_iload hx hb dX6_hasThree_49 (lv_at hl 0 rfl) ?_
          refine lv_icmp_ge (tgt := 79) hx hb dX6_hasThree_51 (by decide) (fun hc => ?_) (fun hc => ?_)
          · have hf := if_t hc hf
            refine lv_iconst (v := (0 : Int32)) hx hb dX6_hasThree_79 (by decide) ?_
            refine lv_istore_n (lv' := [(1, .int (0 : Int32)), (5, .int y3), (4, .int y2), (3, .int y1), (0, .ref q0), (2, .int x2)]) hx hb dX6_hasThree_80 rfl hl (by decide) rfl (fun ls hl => ?_)
            obtain ⟨y6, ey6⟩ : ∃ z : Int32, z = x2 + (1 : Int32) := ⟨_, rfl⟩
            have hf := nm_use ey6 hf
            refine lv_iinc (v := y6) (lv' := [(2, .int y6), (1, .int (0 : Int32)), (5, .int y3), (4, .int y2), (3, .int y1), (0, .ref q0)]) hx hb dX6_hasThree_81 hl (k := 5) rfl (by rw [ey6]; rfl) (by decide) rfl (fun ls hl => ?_)
            refine lv_goto (tgt := 4) hx hb dX6_hasThree_84 (by decide) ?_
            exact ih (0 : Int32) y6 _ _ ls hf hP hD hS (lv_sub hl [5, 1, 0] rfl)
          · have hf := if_f hc hf
            refine lv_aload_n hx hb dX6_hasThree_54 rfl (lv_at hl 3 rfl) ?_
            refine lv_iload_n hx hb dX6_hasThree_55 rfl (lv_at hl 2 rfl) ?_
            obtain ⟨hin, hf⟩ := gI_use hf
            refine va_iald hx hb hG.1 hP 0 0 rfl rfl hin dX6_hasThree_56 ?_
            refine lv_aload_n hx hb dX6_hasThree_57 rfl (lv_at hl 3 rfl) ?_
            refine lv_iload hx hb dX6_hasThree_58 (lv_at hl 0 rfl) ?_
            obtain ⟨hin, hf⟩ := gI_use hf
            refine va_iald hx hb hG.1 hP 0 0 rfl rfl hin dX6_hasThree_60 ?_
            refine lv_icmp_ge (tgt := 79) hx hb dX6_hasThree_61 (by decide) (fun hc => ?_) (fun hc => ?_)
            · have hf := if_t hc hf
              refine lv_iconst (v := (0 : Int32)) hx hb dX6_hasThree_79 (by decide) ?_
              refine lv_istore_n (lv' := [(1, .int (0 : Int32)), (5, .int y3), (4, .int y2), (3, .int y1), (0, .ref q0), (2, .int x2)]) hx hb dX6_hasThree_80 rfl hl (by decide) rfl (fun ls hl => ?_)
              obtain ⟨y9, ey9⟩ : ∃ z : Int32, z = x2 + (1 : Int32) := ⟨_, rfl⟩
              have hf := nm_use ey9 hf
              refine lv_iinc (v := y9) (lv' := [(2, .int y9), (1, .int (0 : Int32)), (5, .int y3), (4, .int y2), (3, .int y1), (0, .ref q0)]) hx hb dX6_hasThree_81 hl (k := 5) rfl (by rw [ey9]; rfl) (by decide) rfl (fun ls hl => ?_)
              refine lv_goto (tgt := 4) hx hb dX6_hasThree_84 (by decide) ?_
              exact ih (0 : Int32) y9 _ _ ls hf hP hD hS (lv_sub hl [5, 1, 0] rfl)
            · have hf := if_f hc hf
              refine lv_aload_n hx hb dX6_hasThree_64 rfl (lv_at hl 3 rfl) ?_
              refine lv_iload hx hb dX6_hasThree_65 (lv_at hl 0 rfl) ?_
              obtain ⟨hin, hf⟩ := gI_use hf
              refine va_iald hx hb hG.1 hP 0 0 rfl rfl hin dX6_hasThree_67 ?_
              refine lv_aload_n hx hb dX6_hasThree_68 rfl (lv_at hl 3 rfl) ?_
              refine lv_iload hx hb dX6_hasThree_69 (lv_at hl 1 rfl) ?_
              obtain ⟨hin, hf⟩ := gI_use hf
              refine va_iald hx hb hG.1 hP 0 0 rfl rfl hin dX6_hasThree_71 ?_
              refine lv_icmp_ge (tgt := 79) hx hb dX6_hasThree_72 (by decide) (fun hc => ?_) (fun hc => ?_)
              · have hf := if_t hc hf
                refine lv_iconst (v := (0 : Int32)) hx hb dX6_hasThree_79 (by decide) ?_
                refine lv_istore_n (lv' := [(1, .int (0 : Int32)), (5, .int y3), (4, .int y2), (3, .int y1), (0, .ref q0), (2, .int x2)]) hx hb dX6_hasThree_80 rfl hl (by decide) rfl (fun ls hl => ?_)
                obtain ⟨y12, ey12⟩ : ∃ z : Int32, z = x2 + (1 : Int32) := ⟨_, rfl⟩
                have hf := nm_use ey12 hf
                refine lv_iinc (v := y12) (lv' := [(2, .int y12), (1, .int (0 : Int32)), (5, .int y3), (4, .int y2), (3, .int y1), (0, .ref q0)]) hx hb dX6_hasThree_81 hl (k := 5) rfl (by rw [ey12]; rfl) (by decide) rfl (fun ls hl => ?_)
                refine lv_goto (tgt := 4) hx hb dX6_hasThree_84 (by decide) ?_
                exact ih (0 : Int32) y12 _ _ ls hf hP hD hS (lv_sub hl [5, 1, 0] rfl)
              · have hf := if_f hc hf
                refine lv_iconst (v := (1 : Int32)) hx hb dX6_hasThree_75 (by decide) ?_
                refine lv_goto (tgt := 80) hx hb dX6_hasThree_76 (by decide) ?_
                refine lv_istore_n (lv' := [(1, .int (1 : Int32)), (5, .int y3), (4, .int y2), (3, .int y1), (0, .ref q0), (2, .int x2)]) hx hb dX6_hasThree_80 rfl hl (by decide) rfl (fun ls hl => ?_)
                obtain ⟨y13, ey13⟩ : ∃ z : Int32, z = x2 + (1 : Int32) := ⟨_, rfl⟩
                have hf := nm_use ey13 hf
                refine lv_iinc (v := y13) (lv' := [(2, .int y13), (1, .int (1 : Int32)), (5, .int y3), (4, .int y2), (3, .int y1), (0, .ref q0)]) hx hb dX6_hasThree_81 hl (k := 5) rfl (by rw [ey13]; rfl) (by decide) rfl (fun ls hl => ?_)
                refine lv_goto (tgt := 4) hx hb dX6_hasThree_84 (by decide) ?_
                exact ih (1 : Int32) y13 _ _ ls hf hP hD hS (lv_sub hl [5, 1, 0] rfl)
set_option maxHeartbeats 4000000 in
set_option maxRecDepth 100000 in
theorem tX6_hasThree (l : Launch) (G : GX) (q0 : Nat) (k0 : Nat → Int32) (res : Int32) (hf : fX6_hasThree k0 = some res) : Ct l yX6_hasThree wsX6_hasThree rmX6_hasThree G [.ref q0] (wdX6_hasThree G q0 k0) (wdX6_hasThree G q0 k0) (some (.int res)) := by
  refine Ct.of (cc := cX6_hasThree) (nL := 6) (ret := (some .boolean)) (by decide) rfl (Nat.le_of_ble_eq_true rfl) rfl ?_
  intro p e s m below meth c A ls C hP hD hl
  obtain ⟨hx, hb, hml, hown, hts, hr, hlocks, hA, hG⟩ := id C
  have hS : va_S A s.heap s.heap [] := va_S.rf
  unfold fX6_hasThree at hf
  refine lv_iconst (v := (0 : Int32)) hx hb dX6_hasThree_0 (by decide) ?_
  refine lv_istore_n (lv' := [(1, .int (0 : Int32)), (0, .ref q0)]) hx hb dX6_hasThree_1 rfl hl (by decide) rfl (fun ls hl => ?_)
  refine lv_iconst (v := (0 : Int32)) hx hb dX6_hasThree_2 (by decide) ?_
  refine lv_istore_n (lv' := [(2, .int (0 : Int32)), (1, .int (0 : Int32)), (0, .ref q0)]) hx hb dX6_hasThree_3 rfl hl (by decide) rfl (fun ls hl => ?_)
  exact wX6_hasThree_4 C q0 k0 res fu (0 : Int32) (0 : Int32) _ _ ls hf hP hD hS (lv_sub hl [2, 1, 0] rfl)
abbrev wdX6_hasFour (G : GX) (q0 : Nat) (k0 : Nat → Int32) : va_W := [(q0, .inl (G.2.1, 10, .inl k0))]
abbrev rmX6_hasFour : Room := { frames := 0, cells := 0, slots := 0, locals := 0 }
abbrev glX6_hasFour (p : Program) (l : Launch) (e : Env) (s : State) (m : MethodId) (args : Array Value) (below : List Frame) (meth : Method) (c : Code) (G : GX) (A : Nat → Prop) (q0 : Nat) (k0 : Nat → Int32) (res : Int32) (H : Heap) (locs : List Loc) (pc : Nat) (ls : Array Slot) (st : List Value) : Prop := W p l e rmX6_hasFour s m args below meth c H locs 0 0 (MQ below (ctQ G A (wdX6_hasFour G q0 k0) (some (.int res))) args s 0 0 A) (F0 m pc ls st)
set_option maxHeartbeats 4000000 in
set_option maxRecDepth 100000 in
theorem wX6_hasFour_4 {p : Program} {l : Launch} {e : Env} {s : State} {m : MethodId} {args : Array Value} {below : List Frame} {meth : Method} {c : Code} {G : GX} {A : Nat → Prop} (C : Cx p s m args meth c cX6_hasFour 7 (some .boolean) wsX6_hasFour RX6 G A) (q0 : Nat) (k0 : Nat → Int32) (res : Int32) (n : Nat) : ∀ (x1 : Int32) (x2 : Int32) (H : Heap) (locs : List Loc) (ls : Array Slot), fX6_hasFour_L4 k0 n x1 x2 = some res → va_P G.1 vwCl (wdX6_hasFour G q0 k0) H → va_D A (wdX6_hasFour G q0 k0) → va_S A s.heap H locs → lv_has ls 7 [(0, .ref q0), (1, .int x1), (2, .int x2)] → glX6_hasFour p l e s m args below meth c G A q0 k0 res H locs 4 ls [] := by
  obtain ⟨hx, hb, hml, hown, hts, hr, hlocks, hA, hG⟩ := id C
  induction n with
  | zero => intro x1 x2 H locs ls hf hP hD hS hl; cases hf
  | succ n ih =>
    intro x1 x2 H locs ls hf hP hD hS hl
    simp only [fX6_hasFour_L4] at hf
    refine lv_iload_n hx hb dX6_hasFour_4 rfl (lv_at hl 2 rfl) ?_
    refine lv_sipush (v := (6561 : Int32)) hx hb dX6_hasFour_5 (by decide) ?_
    refine lv_icmp_ge (tgt := 116) hx hb dX6_hasFour_8 (by decide) (fun hc => ?_) (fun hc => ?_)
    · have hf := if_t hc hf
      refine lv_iload_n hx hb dX6_hasFour_116 rfl (lv_at hl 1 rfl) ?_
      obtain ⟨hz, hf⟩ := bz_use hf
      cases hf
      exact rt_z C hz hP hD hS dX6_hasFour_117
    · have hf := if_f hc hf
      refine lv_iload_n hx hb dX6_hasFour_11 rfl (lv_at hl 2 rfl) ?_
      refine lv_sipush (v := (729 : Int32)) hx hb dX6_hasFour_12 (by decide) ?_
      refine lv_idiv hx hb dX6_hasFour_15 (by decide) ?_
      refine lv_iconst (v := (1 : Int32)) hx hb dX6_hasFour_16 (by decide) ?_
      refine lv_iadd hx hb dX6_hasFour_17 ?_
      refine lv_topi (fun y1 ey1 => ?_)
      have hf := nm_use ey1 hf
      refine lv_istore_n (lv' := [(3, .int y1), (0, .ref q0), (1, .int x1), (2, .int x2)]) hx hb dX6_hasFour_18 rfl hl (by decide) rfl (fun ls hl => ?_)
      refine lv_iload_n hx hb dX6_hasFour_19 rfl (lv_at hl 3 rfl) ?_
      refine lv_bipush (v := (81 : Int32)) hx hb dX6_hasFour_20 (by decide) ?_
      refine lv_idiv hx hb dX6_hasFour_22 (by decide) ?_
      refine lv_bipush (v := (9 : Int32)) hx hb dX6_hasFour_23 (by decide) ?_
      refine lv_irem hx hb dX6_hasFour_25 (by decide) ?_
      refine lv_iconst (v := (1 : Int32)) hx hb dX6_hasFour_26 (by decide) ?_
      refine lv_iadd hx hb dX6_hasFour_27 ?_
      refine lv_topi (fun y2 ey2 => ?_)
      have hf := nm_use ey2 hf
      refine lv_istore (lv' := [(4, .int y2), (3, .int y1), (0, .ref q0), (1, .int x1), (2, .int x2)]) hx hb dX6_hasFour_28 hl (by decide) rfl (fun ls hl => ?_)
      refine lv_iload_n hx hb dX6_hasFour_30 rfl (lv_at hl 4 rfl) ?_
      refine lv_bipush (v := (9 : Int32)) hx hb dX6_hasFour_31 (by decide) ?_
      refine lv_idiv hx hb dX6_hasFour_33 (by decide) ?_
      refine lv_bipush (v := (9 : Int32)) hx hb dX6_hasFour_34 (by decide) ?_
      refine lv_irem hx hb dX6_hasFour_36 (by decide) ?_
      refine lv_iconst (v := (1 : Int32)) hx hb dX6_hasFour_37 (by decide) ?_
      refine lv_iadd hx hb dX6_hasFour_38 ?_
      refine lv_topi (fun y3 ey3 => ?_)
      have hf := nm_use ey3 hf
      refine lv_istore (lv' := [(5, .int y3), (4, .int y2), (3, .int y1), (0, .ref q0), (1, .int x1), (2, .int x2)]) hx hb dX6_hasFour_39 hl (by decide) rfl (fun ls hl => ?_)
      refine lv_iload_n hx hb dX6_hasFour_41 rfl (lv_at hl 5 rfl) ?_
      refine lv_bipush (v := (9 : Int32)) hx hb dX6_hasFour_42 (by decide) ?_
      refine lv_irem hx hb dX6_hasFour_44 (by decide) ?_
      refine lv_iconst (v := (1 : Int32)) hx hb dX6_hasFour_45 (by decide) ?_
      refine lv_iadd hx hb dX6_hasFour_46 ?_
      refine lv_topi (fun y4 ey4 => ?_)
      have hf := nm_use ey4 hf
      refine lv_istore (lv' := [(6, .int y4), (5, .int y3), (4, .int y2), (3, .int y1), (0, .ref q0), (1, .int x1), (2, .int x2)]) hx hb dX6_hasFour_47 hl (by decide) rfl (fun ls hl => ?_)
      refine lv_iload_n hx hb dX6_hasFour_49 rfl (lv_at hl 5 rfl) ?_
      refine lv_if_ne (tgt := 104) hx hb dX6_hasFour_50 (by decide) (fun hc => ?_) (fun hc => ?_)
      · have hf := if_f hc hf
        refine lv_iconst (v := (1 : Int32)) hx hb dX6_hasFour_104 (by decide) ?_
        refine lv_goto (tgt := 109) hx hb dX6_hasFour_105 (by decide) ?_
        refine lv_istore_n (lv' := [(1, .int (1 : Int32)), (6, .int y4), (5, .int y3), (4, .int y2), (3, .int y1), (0, .ref q0), (2, .int x2)]) hx hb dX6_hasFour_109 rfl hl (by decide) rfl (fun ls hl => ?_)
        obtain ⟨y5, ey5⟩ : ∃ z : Int32, z = x2 + (1 : Int32) := ⟨_, rfl⟩
        have hf := nm_use ey5 hf
        refine lv_iinc (v := y5) (lv' := [(2, .int y5), (1, .int (1 : Int32)), (6, .int y4), (5, .int y3), (4, .int y2), (3, .int y1), (0, .ref q0)]) hx hb dX6_hasFour_110 hl (k := 6) rfl (by rw [ey5]; rfl) (by decide) rfl (fun ls hl => ?_)
        refine lv_goto (tgt := 4) hx hb dX6_hasFour_113 (by decide) ?_
        exact ih (1 : Int32) y5 _ _ ls hf hP hD hS (lv_sub hl [6, 1, 0] rfl)
      · have hf := if_t hc hf
        refine lv_iload_n hx hb dX6_hasFour_53 rfl (lv_at hl 3 rfl) ?_
        refine lv_iload hx hb dX6_hasFour_54 (lv_at hl 2 rfl) ?_
        refine lv_icmp_ge (tgt := 108) hx hb dX6_hasFour_56 (by decide) (fun hc => ?_) (fun hc => ?_)
        · have hf := if_t hc hf
          refine lv_iconst (v := (0 : Int32)) hx hb dX6_hasFour_108 (by decide) ?_
          refine lv_istore_n (lv' := [(1, .int (0 : Int32)), (6, .int y4), (5, .int y3), (4, .int y2), (3, .int y1), (0, .ref q0), (2, .int x2)]) hx hb dX6_hasFour_109 rfl hl (by decide) rfl (fun ls hl => ?_)
          obtain ⟨y6, ey6⟩ : ∃ z : Int32, z = x2 + (1 : Int32) := ⟨_, rfl⟩
          have hf := nm_use ey6 hf
          refine lv_iinc (v := y6) (lv' := [(2, .int y6), (1, .int (0 : Int32)), (6, .int y4), (5, .int y3), (4, .int y2), (3, .int y1), (0, .ref q0)]) hx hb dX6_hasFour_110 hl (k := 6) rfl (by rw [ey6]; rfl) (by decide) rfl (fun ls hl => ?_)
          refine lv_goto (tgt := 4) hx hb dX6_hasFour_113 (by decide) ?_
          exact ih (0 : Int32) y6 _ _ ls hf hP hD hS (lv_sub hl [6, 1, 0] rfl)
        · have hf := if_f hc hf
          refine lv_iload hx hb dX6_hasFour_59 (lv_at hl 2 rfl) ?_
          refine lv_iload hx hb dX6_hasFour_61 (lv_at hl 1 rfl) ?_
          refine lv_icmp_ge (tgt := 108) hx hb dX6_hasFour_63 (by decide) (fun hc => ?_) (fun hc => ?_)
          · have hf := if_t hc hf
            refine lv_iconst (v := (0 : Int32)) hx hb dX6_hasFour_108 (by decide) ?_
            refine lv_istore_n (lv' := [(1, .int (0 : Int32)), (6, .int y4), (5, .int y3), (4, .int y2), (3, .int y1), (0, .ref q0), (2, .int x2)]) hx hb dX6_hasFour_109 rfl hl (by decide) rfl (fun ls hl => ?_)
            obtain ⟨y7, ey7⟩ : ∃ z : Int32, z = x2 + (1 : Int32) := ⟨_, rfl⟩
            have hf := nm_use ey7 hf
            refine lv_iinc (v := y7) (lv' := [(2, .int y7), (1, .int (0 : Int32)), (6, .int y4), (5, .int y3), (4, .int y2), (3, .int y1), (0, .ref q0)]) hx hb dX6_hasFour_110 hl (k := 6) rfl (by rw [ey7]; rfl) (by decide) rfl (fun ls hl => ?_)
            refine lv_goto (tgt := 4) hx hb dX6_hasFour_113 (by decide) ?_
            exact ih (0 : Int32) y7 _ _ ls hf hP hD hS (lv_sub hl [6, 1, 0] rfl)
          · have hf := if_f hc hf
            refine lv_iload hx hb dX6_hasFour_66 (lv_at hl 1 rfl) ?_
            refine lv_iload hx hb dX6_hasFour_68 (lv_at hl 0 rfl) ?_
            refine lv_icmp_ge (tgt := 108) hx hb dX6_hasFour_70 (by decide) (fun hc => ?_) (fun hc => ?_)
            · have hf := if_t hc hf
              refine lv_iconst (v := (0 : Int32)) hx hb dX6_hasFour_108 (by decide) ?_
              refine lv_istore_n (lv' := [(1, .int (0 : Int32)), (6, .int y4), (5, .int y3), (4, .int y2), (3, .int y1), (0, .ref q0), (2, .int x2)]) hx hb dX6_hasFour_109 rfl hl (by decide) rfl (fun ls hl => ?_)
              obtain ⟨y8, ey8⟩ : ∃ z : Int32, z = x2 + (1 : Int32) := ⟨_, rfl⟩
              have hf := nm_use ey8 hf
              refine lv_iinc (v := y8) (lv' := [(2, .int y8), (1, .int (0 : Int32)), (6, .int y4), (5, .int y3), (4, .int y2), (3, .int y1), (0, .ref q0)]) hx hb dX6_hasFour_110 hl (k := 6) rfl (by rw [ey8]; rfl) (by decide) rfl (fun ls hl => ?_)
              refine lv_goto (tgt := 4) hx hb dX6_hasFour_113 (by decide) ?_
              exact ih (0 : Int32) y8 _ _ ls hf hP hD hS (lv_sub hl [6, 1, 0] rfl)
            · have hf := if_f hc hf
              refine lv_aload_n hx hb dX6_hasFour_73 rfl (lv_at hl 4 rfl) ?_
              refine lv_iload hx hb dX6_hasFour_74 (lv_at hl 2 rfl) ?_
              obtain ⟨hin, hf⟩ := gI_use hf
              refine va_iald hx hb hG.1 hP 0 0 rfl rfl hin dX6_hasFour_76 ?_
              refine lv_aload_n hx hb dX6_hasFour_77 rfl (lv_at hl 4 rfl) ?_
              refine lv_iload_n hx hb dX6_hasFour_78 rfl (lv_at hl 3 rfl) ?_
              obtain ⟨hin, hf⟩ := gI_use hf
              refine va_iald hx hb hG.1 hP 0 0 rfl rfl hin dX6_hasFour_79 ?_
              refine lv_icmp_ge (tgt := 108) hx hb dX6_hasFour_80 (by decide) (fun hc => ?_) (fun hc => ?_)
              · have hf := if_t hc hf
                refine lv_iconst (v := (0 : Int32)) hx hb dX6_hasFour_108 (by decide) ?_
                refine lv_istore_n (lv' := [(1, .int (0 : Int32)), (6, .int y4), (5, .int y3), (4, .int y2), (3, .int y1), (0, .ref q0), (2, .int x2)]) hx hb dX6_hasFour_109 rfl hl (by decide) rfl (fun ls hl => ?_)
                obtain ⟨y11, ey11⟩ : ∃ z : Int32, z = x2 + (1 : Int32) := ⟨_, rfl⟩
                have hf := nm_use ey11 hf
                refine lv_iinc (v := y11) (lv' := [(2, .int y11), (1, .int (0 : Int32)), (6, .int y4), (5, .int y3), (4, .int y2), (3, .int y1), (0, .ref q0)]) hx hb dX6_hasFour_110 hl (k := 6) rfl (by rw [ey11]; rfl) (by decide) rfl (fun ls hl => ?_)
                refine lv_goto (tgt := 4) hx hb dX6_hasFour_113 (by decide) ?_
                exact ih (0 : Int32) y11 _ _ ls hf hP hD hS (lv_sub hl [6, 1, 0] rfl)
              · have hf := if_f hc hf
                refine lv_aload_n hx hb dX6_hasFour_83 rfl (lv_at hl 4 rfl) ?_
                refine lv_iload_n hx hb dX6_hasFour_84 rfl (lv_at hl 3 rfl) ?_
                obtain ⟨hin, hf⟩ := gI_use hf
                refine va_iald hx hb hG.1 hP 0 0 rfl rfl hin dX6_hasFour_85 ?_
                refine lv_aload_n hx hb dX6_hasFour_86 rfl (lv_at hl 4 rfl) ?_
                refine lv_iload hx hb dX6_hasFour_87 (lv_at hl 0 rfl) ?_
                obtain ⟨hin, hf⟩ := gI_use hf
                refine va_iald hx hb hG.1 hP 0 0 rfl rfl hin dX6_hasFour_89 ?_
                refine lv_icmp_ge (tgt := 108) hx hb dX6_hasFour_90 (by decide) (fun hc => ?_) (fun hc => ?_)
                · have hf := if_t hc hf
                  refine lv_iconst (v := (0 : Int32)) hx hb dX6_hasFour_108 (by decide) ?_
                  refine lv_istore_n (lv' := [(1, .int (0 : Int32)), (6, .int y4), (5, .int y3), (4, .int y2), (3, .int y1), (0, .ref q0), (2, .int x2)]) hx hb dX6_hasFour_109 rfl hl (by decide) rfl (fun ls hl => ?_)
                  obtain ⟨y14, ey14⟩ : ∃ z : Int32, z = x2 + (1 : Int32) := ⟨_, rfl⟩
                  have hf := nm_use ey14 hf
                  refine lv_iinc (v := y14) (lv' := [(2, .int y14), (1, .int (0 : Int32)), (6, .int y4), (5, .int y3), (4, .int y2), (3, .int y1), (0, .ref q0)]) hx hb dX6_hasFour_110 hl (k := 6) rfl (by rw [ey14]; rfl) (by decide) rfl (fun ls hl => ?_)
                  refine lv_goto (tgt := 4) hx hb dX6_hasFour_113 (by decide) ?_
                  exact ih (0 : Int32) y14 _ _ ls hf hP hD hS (lv_sub hl [6, 1, 0] rfl)
                · have hf := if_f hc hf
                  refine lv_aload_n hx hb dX6_hasFour_93 rfl (lv_at hl 4 rfl) ?_
                  refine lv_iload hx hb dX6_hasFour_94 (lv_at hl 0 rfl) ?_
                  obtain ⟨hin, hf⟩ := gI_use hf
                  refine va_iald hx hb hG.1 hP 0 0 rfl rfl hin dX6_hasFour_96 ?_
                  refine lv_aload_n hx hb dX6_hasFour_97 rfl (lv_at hl 4 rfl) ?_
                  refine lv_iload hx hb dX6_hasFour_98 (lv_at hl 1 rfl) ?_
                  obtain ⟨hin, hf⟩ := gI_use hf
                  refine va_iald hx hb hG.1 hP 0 0 rfl rfl hin dX6_hasFour_100 ?_
                  refine lv_icmp_ge (tgt := 108) hx hb dX6_hasFour_101 (by decide) (fun hc => ?_) (fun hc => ?_)
                  · have hf := if_t hc hf
                    refine lv_iconst (v := (0 : Int32)) hx hb dX6_hasFour_108 (by decide) ?_
                    refine lv_istore_n (lv' := [(1, .int (0 : Int32)), (6, .int y4), (5, .int y3), (4, .int y2), (3, .int y1), (0, .ref q0), (2, .int x2)]) hx hb dX6_hasFour_109 rfl hl (by decide) rfl (fun ls hl => ?_)
                    obtain ⟨y17, ey17⟩ : ∃ z : Int32, z = x2 + (1 : Int32) := ⟨_, rfl⟩
                    have hf := nm_use ey17 hf
                    refine lv_iinc (v := y17) (lv' := [(2, .int y17), (1, .int (0 : Int32)), (6, .int y4), (5, .int y3), (4, .int y2), (3, .int y1), (0, .ref q0)]) hx hb dX6_hasFour_110 hl (k := 6) rfl (by rw [ey17]; rfl) (by decide) rfl (fun ls hl => ?_)
                    refine lv_goto (tgt := 4) hx hb dX6_hasFour_113 (by decide) ?_
                    exact ih (0 : Int32) y17 _ _ ls hf hP hD hS (lv_sub hl [6, 1, 0] rfl)
                  · have hf := if_f hc hf
                    refine lv_iconst (v := (1 : Int32)) hx hb dX6_hasFour_104 (by decide) ?_
                    refine lv_goto (tgt := 109) hx hb dX6_hasFour_105 (by decide) ?_
                    refine lv_istore_n (lv' := [(1, .int (1 : Int32)), (6, .int y4), (5, .int y3), (4, .int y2), (3, .int y1), (0, .ref q0), (2, .int x2)]) hx hb dX6_hasFour_109 rfl hl (by decide) rfl (fun ls hl => ?_)
                    obtain ⟨y18, ey18⟩ : ∃ z : Int32, z = x2 + (1 : Int32) := ⟨_, rfl⟩
                    have hf := nm_use ey18 hf
                    refine lv_iinc (v := y18) (lv' := [(2, .int y18), (1, .int (1 : Int32)), (6, .int y4), (5, .int y3), (4, .int y2), (3, .int y1), (0, .ref q0)]) hx hb dX6_hasFour_110 hl (k := 6) rfl (by rw [ey18]; rfl) (by decide) rfl (fun ls hl => ?_)
                    refine lv_goto (tgt := 4) hx hb dX6_hasFour_113 (by decide) ?_
                    exact ih (1 : Int32) y18 _ _ ls hf hP hD hS (lv_sub hl [6, 1, 0] rfl)
set_option maxHeartbeats 4000000 in
set_option maxRecDepth 100000 in
theorem tX6_hasFour (l : Launch) (G : GX) (q0 : Nat) (k0 : Nat → Int32) (res : Int32) (hf : fX6_hasFour k0 = some res) : Ct l yX6_hasFour wsX6_hasFour rmX6_hasFour G [.ref q0] (wdX6_hasFour G q0 k0) (wdX6_hasFour G q0 k0) (some (.int res)) := by
  refine Ct.of (cc := cX6_hasFour) (nL := 7) (ret := (some .boolean)) (by decide) rfl (Nat.le_of_ble_eq_true rfl) rfl ?_
  intro p e s m below meth c A ls C hP hD hl
  obtain ⟨hx, hb, hml, hown, hts, hr, hlocks, hA, hG⟩ := id C
  have hS : va_S A s.heap s.heap [] := va_S.rf
  unfold fX6_hasFour at hf
  refine lv_iconst (v := (0 : Int32)) hx hb dX6_hasFour_0 (by decide) ?_
  refine lv_istore_n (lv' := [(1, .int (0 : Int32)), (0, .ref q0)]) hx hb dX6_hasFour_1 rfl hl (by decide) rfl (fun ls hl => ?_)
  refine lv_iconst (v := (0 : Int32)) hx hb dX6_hasFour_2 (by decide) ?_
  refine lv_istore_n (lv' := [(2, .int (0 : Int32)), (1, .int (0 : Int32)), (0, .ref q0)]) hx hb dX6_hasFour_3 rfl hl (by decide) rfl (fun ls hl => ?_)
  exact wX6_hasFour_4 C q0 k0 res fu (0 : Int32) (0 : Int32) _ _ ls hf hP hD hS (lv_sub hl [2, 1, 0] rfl)
