abbrev wdX6_wipe (G : GX) (q0 : Nat) (q0_one : Nat) (q0_other : Nat) (q0_third : Nat) (q0_waysTo : Nat) (q0_poly : Nat) (q0_then : Nat) (q0_steps : Nat) (q0_sheet : Nat) (q0_next : Nat) (q0_wide : Nat) (q0_partOf : Nat) (q0_partTimes : Nat) (q0_foundAt : Nat) (k0_sheet : Nat → Int64) (k0_isParted : Int32) (k0_parts : Int32) (k0_found : Int32) : va_W := [(q0, .inr (6, [.ref q0_one, .ref q0_other, .ref q0_third, .ref q0_waysTo, .ref q0_poly, .ref q0_then, .ref q0_steps, .ref q0_sheet, .ref q0_next, .int k0_isParted, .ref q0_wide, .int k0_parts, .ref q0_partOf, .ref q0_partTimes, .int k0_found, .ref q0_foundAt])), (q0_sheet, .inl (G.2.2.1, 3024, .inr (.inl k0_sheet)))]
abbrev rmX6_wipe : Room := { frames := 1, cells := 0, slots := 0, locals := 22 }
abbrev glX6_wipe (p : Program) (l : Launch) (e : Env) (s : State) (m : MethodId) (args : Array Value) (below : List Frame) (meth : Method) (c : Code) (G : GX) (A : Nat → Prop) (q0 : Nat) (q0_one : Nat) (q0_other : Nat) (q0_third : Nat) (q0_waysTo : Nat) (q0_poly : Nat) (q0_then : Nat) (q0_steps : Nat) (q0_sheet : Nat) (q0_next : Nat) (q0_wide : Nat) (q0_partOf : Nat) (q0_partTimes : Nat) (q0_foundAt : Nat) (k0_parts : Int32) (k0_found : Int32) (res : Int32 × (Nat → Int64) × Int32) (H : Heap) (locs : List Loc) (pc : Nat) (ls : Array Slot) (st : List Value) : Prop := W p l e rmX6_wipe s m args below meth c H locs 0 0 (MQ below (ctQ G A (wdX6_wipe G q0 q0_one q0_other q0_third q0_waysTo q0_poly q0_then q0_steps q0_sheet q0_next q0_wide q0_partOf q0_partTimes q0_foundAt res.2.1 res.2.2 k0_parts k0_found) (some (.int res.1))) args s 0 0 A) (F0 m pc ls st)
set_option maxRecDepth 20000 in
theorem mX6_wipe_0 : Cond.fieldLink RX6 144 "SchubertDeskModel" "isParted" "Z" ∈ wsX6_wipe := by decide +kernel
set_option maxRecDepth 20000 in
theorem mX6_wipe_1 : Cond.fieldLink RX6 32 "SchubertDeskModel" "sheet" "[J" ∈ wsX6_wipe := by decide +kernel
set_option maxRecDepth 20000 in
theorem nX6_wipe_X6 : ∀ w ∈ u_ws RX6 TX6 16, w ∈ wsX6_wipe := by decide +kernel
set_option maxHeartbeats 4000000 in
set_option maxRecDepth 100000 in
theorem wX6_wipe_10 {p : Program} {l : Launch} {e : Env} {s : State} {m : MethodId} {args : Array Value} {below : List Frame} {meth : Method} {c : Code} {G : GX} {A : Nat → Prop} (C : Cx p s m args meth c cX6_wipe 3 (some .int) wsX6_wipe RX6 G A) (q0 : Nat) (q0_one : Nat) (q0_other : Nat) (q0_third : Nat) (q0_waysTo : Nat) (q0_poly : Nat) (q0_then : Nat) (q0_steps : Nat) (q0_sheet : Nat) (q0_next : Nat) (q0_wide : Nat) (q0_partOf : Nat) (q0_partTimes : Nat) (q0_foundAt : Nat) (k0_parts : Int32) (k0_found : Int32) (res : Int32 × (Nat → Int64) × Int32) (n : Nat) : ∀ (k0_sheet : Nat → Int64) (k0_isParted : Int32) (x1 : Int32) (x2 : Int32) (H : Heap) (locs : List Loc) (ls : Array Slot), fX6_wipe_L10 n k0_sheet k0_isParted x1 x2 = some res → va_P G.1 vwCl (wdX6_wipe G q0 q0_one q0_other q0_third q0_waysTo q0_poly q0_then q0_steps q0_sheet q0_next q0_wide q0_partOf q0_partTimes q0_foundAt k0_sheet k0_isParted k0_parts k0_found) H → va_D A (wdX6_wipe G q0 q0_one q0_other q0_third q0_waysTo q0_poly q0_then q0_steps q0_sheet q0_next q0_wide q0_partOf q0_partTimes q0_foundAt k0_sheet k0_isParted k0_parts k0_found) → va_S A s.heap H locs → lv_has ls 3 [(0, .ref q0), (1, .int x1), (2, .int x2)] → glX6_wipe p l e s m args below meth c G A q0 q0_one q0_other q0_third q0_waysTo q0_poly q0_then q0_steps q0_sheet q0_next q0_wide q0_partOf q0_partTimes q0_foundAt k0_parts k0_found res H locs 10 ls [] := by
  obtain ⟨hx, hb, hml, hown, hts, hr, hlocks, hA, hG⟩ := id C
  induction n with
  | zero => intro k0_sheet k0_isParted x1 x2 H locs ls hf hP hD hS hl; cases hf
  | succ n ih =>
    intro k0_sheet k0_isParted x1 x2 H locs ls hf hP hD hS hl
    simp only [fX6_wipe_L10] at hf
    refine lv_iload_n hx hb dX6_wipe_10 rfl (lv_at hl 2 rfl) ?_
    refine lv_sipush (v := (3024 : Int32)) hx hb dX6_wipe_11 (by decide) ?_
    refine lv_icmp_ge (tgt := 30) hx hb dX6_wipe_14 (by decide) (fun hc => ?_) (fun hc => ?_)
    · have hf := if_t hc hf
      refine lv_aload_n hx hb dX6_wipe_30 rfl (lv_at hl 0 rfl) ?_
      refine lv_iconst (v := (0 : Int32)) hx hb dX6_wipe_31 (by decide) ?_
      refine va_put (D := G.1) (ci := 6) (v := .int (0 : Int32)) (ty := .boolean) (C := RX6) (T := TX6) (N := 16) hx hb hts nX6_wipe_X6 tyX6 tyX6_ok nmX6 hown hG.1 hP hD hS 0 rfl rfl 9 (by decide) (hts _ mX6_wipe_0) (fun _ h9 => h9) rfl (by decide +kernel) rfl rfl (Nat.le_of_ble_eq_true rfl) dX6_wipe_32 (fun H locs hP hD hS => ?_)
      have hP : va_P G.1 vwCl (wdX6_wipe G q0 q0_one q0_other q0_third q0_waysTo q0_poly q0_then q0_steps q0_sheet q0_next q0_wide q0_partOf q0_partTimes q0_foundAt k0_sheet (0 : Int32) k0_parts k0_found) H := hP
      have hD : va_D A (wdX6_wipe G q0 q0_one q0_other q0_third q0_waysTo q0_poly q0_then q0_steps q0_sheet q0_next q0_wide q0_partOf q0_partTimes q0_foundAt k0_sheet (0 : Int32) k0_parts k0_found) := hD
      refine lv_iload_n hx hb dX6_wipe_35 rfl (lv_at hl 1 rfl) ?_
      cases hf
      exact rt_i C hP hD hS dX6_wipe_36
    · have hf := if_f hc hf
      refine lv_aload_n hx hb dX6_wipe_17 rfl (lv_at hl 0 rfl) ?_
      refine va_get (D := G.1) (ci := 6) (v := .ref q0_sheet) (C := RX6) (T := TX6) (N := 16) hx hb hts nX6_wipe_X6 hown hG.1 hP 0 rfl rfl 7 (by decide) (hts _ mX6_wipe_1) (fun _ h9 => h9) rfl dX6_wipe_18 ?_
      refine lv_iload_n hx hb dX6_wipe_21 rfl (lv_at hl 2 rfl) ?_
      refine lv_lconst (v := (0 : Int64)) hx hb dX6_wipe_22 (by decide) ?_
      obtain ⟨hin, hf⟩ := pJ_use hf
      refine va_last hx hb hG.1 hP hD hS 1 1 rfl rfl hin dX6_wipe_23 (fun H locs hP hD hS => ?_)
      have hP : va_P G.1 vwCl (wdX6_wipe G q0 q0_one q0_other q0_third q0_waysTo q0_poly q0_then q0_steps q0_sheet q0_next q0_wide q0_partOf q0_partTimes q0_foundAt (vp_updL k0_sheet (x2).toNatClampNeg (0 : Int64)) k0_isParted k0_parts k0_found) H := hP
      have hD : va_D A (wdX6_wipe G q0 q0_one q0_other q0_third q0_waysTo q0_poly q0_then q0_steps q0_sheet q0_next q0_wide q0_partOf q0_partTimes q0_foundAt (vp_updL k0_sheet (x2).toNatClampNeg (0 : Int64)) k0_isParted k0_parts k0_found) := hD
      obtain ⟨y2, ey2⟩ : ∃ z : Int32, z = x2 + (1 : Int32) := ⟨_, rfl⟩
      have hf := nm_use ey2 hf
      refine lv_iinc (v := y2) (lv' := [(2, .int y2), (0, .ref q0), (1, .int x1)]) hx hb dX6_wipe_24 hl (k := 2) rfl (by rw [ey2]; rfl) (by decide) rfl (fun ls hl => ?_)
      refine lv_goto (tgt := 10) hx hb dX6_wipe_27 (by decide) ?_
      exact ih (vp_updL k0_sheet (x2).toNatClampNeg (0 : Int64)) k0_isParted x1 y2 _ _ ls hf hP hD hS (lv_sub hl [1, 2, 0] rfl)
set_option maxHeartbeats 4000000 in
set_option maxRecDepth 100000 in
theorem tX6_wipe (l : Launch) (G : GX) (q0 : Nat) (q0_one : Nat) (q0_other : Nat) (q0_third : Nat) (q0_waysTo : Nat) (q0_poly : Nat) (q0_then : Nat) (q0_steps : Nat) (q0_sheet : Nat) (q0_next : Nat) (q0_wide : Nat) (q0_partOf : Nat) (q0_partTimes : Nat) (q0_foundAt : Nat) (k0_sheet : Nat → Int64) (k0_isParted : Int32) (k0_parts : Int32) (k0_found : Int32) (res : Int32 × (Nat → Int64) × Int32) (hf : fX6_wipe k0_sheet k0_isParted = some res) : Ct l yX6_wipe wsX6_wipe rmX6_wipe G [.ref q0] (wdX6_wipe G q0 q0_one q0_other q0_third q0_waysTo q0_poly q0_then q0_steps q0_sheet q0_next q0_wide q0_partOf q0_partTimes q0_foundAt k0_sheet k0_isParted k0_parts k0_found) (wdX6_wipe G q0 q0_one q0_other q0_third q0_waysTo q0_poly q0_then q0_steps q0_sheet q0_next q0_wide q0_partOf q0_partTimes q0_foundAt res.2.1 res.2.2 k0_parts k0_found) (some (.int res.1)) := by
  refine Ct.of (cc := cX6_wipe) (nL := 3) (ret := (some .int)) (by decide) rfl (Nat.le_of_ble_eq_true rfl) rfl ?_
  intro p e s m below meth c A ls C hP hD hl
  obtain ⟨hx, hb, hml, hown, hts, hr, hlocks, hA, hG⟩ := id C
  have hS : va_S A s.heap s.heap [] := va_S.rf
  unfold fX6_wipe at hf
  refine lv_aload_n hx hb dX6_wipe_0 rfl (lv_at hl 0 rfl) ?_
  refine va_get (D := G.1) (ci := 6) (v := .ref q0_sheet) (C := RX6) (T := TX6) (N := 16) hx hb hts nX6_wipe_X6 hown hG.1 hP 0 rfl rfl 7 (by decide) (hts _ mX6_wipe_1) (fun _ h9 => h9) rfl dX6_wipe_1 ?_
  obtain ⟨r3, hr3, hf⟩ := bd_use hf
  refine cl_S (wn := (wdX6_wipe G q0 q0_one q0_other q0_third q0_waysTo q0_poly q0_then q0_steps q0_sheet q0_next q0_wide q0_partOf q0_partTimes q0_foundAt k0_sheet k0_isParted k0_parts k0_found)) (st1 := [.int r3]) C hP hD hS (tX6_termsOf l G q0_sheet k0_sheet r3 hr3) (va_cwS 1 hts gX6_wipe_X6_termsOf rfl rfl rfl (by decide +kernel) ⟨Nat.le_of_ble_eq_true rfl, Nat.le_of_ble_eq_true rfl⟩) [1] [0] [0, 1] rfl rfl rfl rfl (by decide) rfl rfl rfl hl.1 rfl rfl (Nat.le_of_ble_eq_true rfl) dX6_wipe_4 (fun H locs hP hD hS => ?_)
  refine lv_istore_n (lv' := [(1, .int r3), (0, .ref q0)]) hx hb dX6_wipe_7 rfl hl (by decide) rfl (fun ls hl => ?_)
  refine lv_iconst (v := (0 : Int32)) hx hb dX6_wipe_8 (by decide) ?_
  refine lv_istore_n (lv' := [(2, .int (0 : Int32)), (1, .int r3), (0, .ref q0)]) hx hb dX6_wipe_9 rfl hl (by decide) rfl (fun ls hl => ?_)
  exact wX6_wipe_10 C q0 q0_one q0_other q0_third q0_waysTo q0_poly q0_then q0_steps q0_sheet q0_next q0_wide q0_partOf q0_partTimes q0_foundAt k0_parts k0_found res fu k0_sheet k0_isParted r3 (0 : Int32) _ _ ls hf hP hD hS (lv_sub hl [2, 1, 0] rfl)
abbrev wdX6_add (G : GX) (q0 : Nat) (q0_one : Nat) (q0_other : Nat) (q0_third : Nat) (q0_waysTo : Nat) (q0_poly : Nat) (q0_then : Nat) (q0_steps : Nat) (q0_sheet : Nat) (q0_next : Nat) (q0_wide : Nat) (q0_partOf : Nat) (q0_partTimes : Nat) (q0_foundAt : Nat) (k0_one : Nat → Int32) (k0_poly : Nat → Int64) (k0_then : Nat → Int64) (k0_steps : Nat → Int32) (k0_sheet : Nat → Int64) (k0_next : Nat → Int64) (k0_isParted : Int32) (k0_parts : Int32) (k0_found : Int32) : va_W := [(q0, .inr (6, [.ref q0_one, .ref q0_other, .ref q0_third, .ref q0_waysTo, .ref q0_poly, .ref q0_then, .ref q0_steps, .ref q0_sheet, .ref q0_next, .int k0_isParted, .ref q0_wide, .int k0_parts, .ref q0_partOf, .ref q0_partTimes, .int k0_found, .ref q0_foundAt])), (q0_one, .inl (G.2.1, 10, .inl k0_one)), (q0_poly, .inl (G.2.2.1, 3024, .inr (.inl k0_poly))), (q0_then, .inl (G.2.2.1, 3024, .inr (.inl k0_then))), (q0_steps, .inl (G.2.1, 64, .inl k0_steps)), (q0_sheet, .inl (G.2.2.1, 3024, .inr (.inl k0_sheet))), (q0_next, .inl (G.2.2.1, 3024, .inr (.inl k0_next)))]
abbrev rmX6_add : Room := { frames := 3, cells := 0, slots := 0, locals := 76 }
abbrev glX6_add (p : Program) (l : Launch) (e : Env) (s : State) (m : MethodId) (args : Array Value) (below : List Frame) (meth : Method) (c : Code) (G : GX) (A : Nat → Prop) (q0 : Nat) (q0_one : Nat) (q0_other : Nat) (q0_third : Nat) (q0_waysTo : Nat) (q0_poly : Nat) (q0_then : Nat) (q0_steps : Nat) (q0_sheet : Nat) (q0_next : Nat) (q0_wide : Nat) (q0_partOf : Nat) (q0_partTimes : Nat) (q0_foundAt : Nat) (k0_parts : Int32) (k0_found : Int32) (res : Int32 × (Nat → Int32) × (Nat → Int64) × (Nat → Int64) × (Nat → Int32) × (Nat → Int64) × (Nat → Int64) × Int32) (H : Heap) (locs : List Loc) (pc : Nat) (ls : Array Slot) (st : List Value) : Prop := W p l e rmX6_add s m args below meth c H locs 0 0 (MQ below (ctQ G A (wdX6_add G q0 q0_one q0_other q0_third q0_waysTo q0_poly q0_then q0_steps q0_sheet q0_next q0_wide q0_partOf q0_partTimes q0_foundAt res.2.1 res.2.2.1 res.2.2.2.1 res.2.2.2.2.1 res.2.2.2.2.2.1 res.2.2.2.2.2.2.1 res.2.2.2.2.2.2.2 k0_parts k0_found) (some (.int res.1))) args s 0 0 A) (F0 m pc ls st)
set_option maxRecDepth 20000 in
theorem mX6_add_0 : Cond.fieldLink RX6 35 "SchubertDeskModel" "next" "[J" ∈ wsX6_add := by decide +kernel
set_option maxRecDepth 20000 in
theorem mX6_add_1 : Cond.fieldLink RX6 32 "SchubertDeskModel" "sheet" "[J" ∈ wsX6_add := by decide +kernel
set_option maxRecDepth 20000 in
theorem mX6_add_2 : Cond.fieldLink RX6 22 "SchubertDeskModel" "poly" "[J" ∈ wsX6_add := by decide +kernel
set_option maxRecDepth 20000 in
theorem mX6_add_3 : Cond.fieldLink RX6 7 "SchubertDeskModel" "one" "[I" ∈ wsX6_add := by decide +kernel
set_option maxRecDepth 20000 in
theorem nX6_add_X6 : ∀ w ∈ u_ws RX6 TX6 16, w ∈ wsX6_add := by decide +kernel
set_option maxHeartbeats 4000000 in
set_option maxRecDepth 100000 in
theorem wX6_add_50 {p : Program} {l : Launch} {e : Env} {s : State} {m : MethodId} {args : Array Value} {below : List Frame} {meth : Method} {c : Code} {G : GX} {A : Nat → Prop} (C : Cx p s m args meth c cX6_add 4 (some .int) wsX6_add RX6 G A) (q0 : Nat) (q0_one : Nat) (q0_other : Nat) (q0_third : Nat) (q0_waysTo : Nat) (q0_poly : Nat) (q0_then : Nat) (q0_steps : Nat) (q0_sheet : Nat) (q0_next : Nat) (q0_wide : Nat) (q0_partOf : Nat) (q0_partTimes : Nat) (q0_foundAt : Nat) (k0_parts : Int32) (k0_found : Int32) (p1 : Int32) (p2 : Int32) (res : Int32 × (Nat → Int32) × (Nat → Int64) × (Nat → Int64) × (Nat → Int32) × (Nat → Int64) × (Nat → Int64) × Int32) (n : Nat) : ∀ (k0_one : Nat → Int32) (k0_poly : Nat → Int64) (k0_then : Nat → Int64) (k0_steps : Nat → Int32) (k0_sheet : Nat → Int64) (k0_next : Nat → Int64) (k0_isParted : Int32) (x3 : Int32) (H : Heap) (locs : List Loc) (ls : Array Slot), fX6_add_L50 p1 p2 n k0_one k0_poly k0_then k0_steps k0_sheet k0_next k0_isParted x3 = some res → va_P G.1 vwCl (wdX6_add G q0 q0_one q0_other q0_third q0_waysTo q0_poly q0_then q0_steps q0_sheet q0_next q0_wide q0_partOf q0_partTimes q0_foundAt k0_one k0_poly k0_then k0_steps k0_sheet k0_next k0_isParted k0_parts k0_found) H → va_D A (wdX6_add G q0 q0_one q0_other q0_third q0_waysTo q0_poly q0_then q0_steps q0_sheet q0_next q0_wide q0_partOf q0_partTimes q0_foundAt k0_one k0_poly k0_then k0_steps k0_sheet k0_next k0_isParted k0_parts k0_found) → va_S A s.heap H locs → lv_has ls 4 [(0, .ref q0), (1, .int p1), (3, .int x3)] → glX6_add p l e s m args below meth c G A q0 q0_one q0_other q0_third q0_waysTo q0_poly q0_then q0_steps q0_sheet q0_next q0_wide q0_partOf q0_partTimes q0_foundAt k0_parts k0_found res H locs 50 ls [] := by
  obtain ⟨hx, hb, hml, hown, hts, hr, hlocks, hA, hG⟩ := id C
  induction n with
  | zero => intro k0_one k0_poly k0_then k0_steps k0_sheet k0_next k0_isParted x3 H locs ls hf hP hD hS hl; cases hf
  | succ n ih =>
    intro k0_one k0_poly k0_then k0_steps k0_sheet k0_next k0_isParted x3 H locs ls hf hP hD hS hl
    simp only [fX6_add_L50] at hf
    refine lv_iload_n hx hb dX6_add_50 rfl (lv_at hl 2 rfl) ?_
    refine lv_sipush (v := (3024 : Int32)) hx hb dX6_add_51 (by decide) ?_
    refine lv_icmp_ge (tgt := 85) hx hb dX6_add_54 (by decide) (fun hc => ?_) (fun hc => ?_)
    · have hf := if_t hc hf
      refine lv_aload_n hx hb dX6_add_85 rfl (lv_at hl 0 rfl) ?_
      obtain ⟨r1, hr1, hf⟩ := bd_use hf
      refine cl_V (wn := (wdX6_add G q0 q0_one q0_other q0_third q0_waysTo q0_poly q0_then q0_steps q0_sheet q0_next q0_wide q0_partOf q0_partTimes q0_foundAt k0_one k0_poly k0_then k0_steps r1.2.1 k0_next r1.2.2 k0_parts k0_found)) (st1 := [.int r1.1]) C hP hD hS (tX6_becomes l G q0 q0_one q0_other q0_third q0_waysTo q0_poly q0_then q0_steps q0_sheet q0_next q0_wide q0_partOf q0_partTimes q0_foundAt k0_sheet k0_next k0_isParted k0_parts k0_found r1 hr1) (cwV 0 hts gX6_add_X6_becomes rfl rfl rfl (by decide +kernel) ⟨Nat.le_of_ble_eq_true rfl, Nat.le_of_ble_eq_true rfl⟩) [0, 5, 6] [1, 2, 3, 4] [4, 0, 1, 2, 3, 5, 6] rfl rfl rfl rfl (by decide) rfl rfl (ci := 6) (q0 := 0) rfl rfl rfl rfl hl.1 rfl rfl (Nat.le_of_ble_eq_true rfl) dX6_add_86 (fun H locs hP hD hS => ?_)
      cases hf
      exact rt_i C hP hD hS dX6_add_89
    · have hf := if_f hc hf
      refine lv_aload_n hx hb dX6_add_57 rfl (lv_at hl 0 rfl) ?_
      refine va_get (D := G.1) (ci := 6) (v := .ref q0_next) (C := RX6) (T := TX6) (N := 16) hx hb hts nX6_add_X6 hown hG.1 hP 0 rfl rfl 8 (by decide) (hts _ mX6_add_0) (fun _ h9 => h9) rfl dX6_add_58 ?_
      refine lv_iload_n hx hb dX6_add_61 rfl (lv_at hl 2 rfl) ?_
      refine lv_aload_n hx hb dX6_add_62 rfl (lv_at hl 0 rfl) ?_
      refine va_get (D := G.1) (ci := 6) (v := .ref q0_sheet) (C := RX6) (T := TX6) (N := 16) hx hb hts nX6_add_X6 hown hG.1 hP 0 rfl rfl 7 (by decide) (hts _ mX6_add_1) (fun _ h9 => h9) rfl dX6_add_63 ?_
      refine lv_iload_n hx hb dX6_add_66 rfl (lv_at hl 2 rfl) ?_
      obtain ⟨hin, hf⟩ := gJ_use hf
      refine va_lald hx hb hG.1 hP 5 1 rfl rfl hin dX6_add_67 ?_
      refine lv_iload_n hx hb dX6_add_68 rfl (lv_at hl 1 rfl) ?_
      refine lv_i2l hx hb dX6_add_69 rfl ?_
      refine lv_aload_n hx hb dX6_add_70 rfl (lv_at hl 0 rfl) ?_
      refine va_get (D := G.1) (ci := 6) (v := .ref q0_poly) (C := RX6) (T := TX6) (N := 16) hx hb hts nX6_add_X6 hown hG.1 hP 0 rfl rfl 4 (by decide) (hts _ mX6_add_2) (fun _ h9 => h9) rfl dX6_add_71 ?_
      refine lv_iload_n hx hb dX6_add_74 rfl (lv_at hl 2 rfl) ?_
      obtain ⟨hin, hf⟩ := gJ_use hf
      refine va_lald hx hb hG.1 hP 2 1 rfl rfl hin dX6_add_75 ?_
      refine lv_lmul hx hb dX6_add_76 ?_
      refine lv_ladd hx hb dX6_add_77 ?_
      obtain ⟨hin, hf⟩ := pJ_use hf
      refine va_last hx hb hG.1 hP hD hS 6 1 rfl rfl hin dX6_add_78 (fun H locs hP hD hS => ?_)
      have hP : va_P G.1 vwCl (wdX6_add G q0 q0_one q0_other q0_third q0_waysTo q0_poly q0_then q0_steps q0_sheet q0_next q0_wide q0_partOf q0_partTimes q0_foundAt k0_one k0_poly k0_then k0_steps k0_sheet (vp_updL k0_next (x3).toNatClampNeg ((k0_sheet (x3).toNatClampNeg) + ((p1).toInt64 * (k0_poly (x3).toNatClampNeg)))) k0_isParted k0_parts k0_found) H := hP
      have hD : va_D A (wdX6_add G q0 q0_one q0_other q0_third q0_waysTo q0_poly q0_then q0_steps q0_sheet q0_next q0_wide q0_partOf q0_partTimes q0_foundAt k0_one k0_poly k0_then k0_steps k0_sheet (vp_updL k0_next (x3).toNatClampNeg ((k0_sheet (x3).toNatClampNeg) + ((p1).toInt64 * (k0_poly (x3).toNatClampNeg)))) k0_isParted k0_parts k0_found) := hD
      obtain ⟨y5, ey5⟩ : ∃ z : Int32, z = x3 + (1 : Int32) := ⟨_, rfl⟩
      have hf := nm_use ey5 hf
      refine lv_iinc (v := y5) (lv' := [(3, .int y5), (0, .ref q0), (1, .int p1)]) hx hb dX6_add_79 hl (k := 2) rfl (by rw [ey5]; rfl) (by decide) rfl (fun ls hl => ?_)
      refine lv_goto (tgt := 50) hx hb dX6_add_82 (by decide) ?_
      exact ih k0_one k0_poly k0_then k0_steps k0_sheet (vp_updL k0_next (x3).toNatClampNeg ((k0_sheet (x3).toNatClampNeg) + ((p1).toInt64 * (k0_poly (x3).toNatClampNeg)))) k0_isParted y5 _ _ ls hf hP hD hS (lv_sub hl [1, 2, 0] rfl)
set_option maxHeartbeats 4000000 in
set_option maxRecDepth 100000 in
theorem tX6_add (l : Launch) (G : GX) (q0 : Nat) (q0_one : Nat) (q0_other : Nat) (q0_third : Nat) (q0_waysTo : Nat) (q0_poly : Nat) (q0_then : Nat) (q0_steps : Nat) (q0_sheet : Nat) (q0_next : Nat) (q0_wide : Nat) (q0_partOf : Nat) (q0_partTimes : Nat) (q0_foundAt : Nat) (k0_one : Nat → Int32) (k0_poly : Nat → Int64) (k0_then : Nat → Int64) (k0_steps : Nat → Int32) (k0_sheet : Nat → Int64) (k0_next : Nat → Int64) (k0_isParted : Int32) (k0_parts : Int32) (k0_found : Int32) (p1 : Int32) (p2 : Int32) (res : Int32 × (Nat → Int32) × (Nat → Int64) × (Nat → Int64) × (Nat → Int32) × (Nat → Int64) × (Nat → Int64) × Int32) (hf : fX6_add k0_one k0_poly k0_then k0_steps k0_sheet k0_next k0_isParted p1 p2 = some res) : Ct l yX6_add wsX6_add rmX6_add G [.ref q0, .int p1, .int p2] (wdX6_add G q0 q0_one q0_other q0_third q0_waysTo q0_poly q0_then q0_steps q0_sheet q0_next q0_wide q0_partOf q0_partTimes q0_foundAt k0_one k0_poly k0_then k0_steps k0_sheet k0_next k0_isParted k0_parts k0_found) (wdX6_add G q0 q0_one q0_other q0_third q0_waysTo q0_poly q0_then q0_steps q0_sheet q0_next q0_wide q0_partOf q0_partTimes q0_foundAt res.2.1 res.2.2.1 res.2.2.2.1 res.2.2.2.2.1 res.2.2.2.2.2.1 res.2.2.2.2.2.2.1 res.2.2.2.2.2.2.2 k0_parts k0_found) (some (.int res.1)) := by
  refine Ct.of (cc := cX6_add) (nL := 4) (ret := (some .int)) (by decide) rfl (Nat.le_of_ble_eq_true rfl) rfl ?_
  intro p e s m below meth c A ls C hP hD hl
  obtain ⟨hx, hb, hml, hown, hts, hr, hlocks, hA, hG⟩ := id C
  have hS : va_S A s.heap s.heap [] := va_S.rf
  unfold fX6_add at hf
  refine lv_iload_n hx hb dX6_add_0 rfl (lv_at hl 1 rfl) ?_
  refine lv_sipush (v := (-1000 : Int32)) hx hb dX6_add_1 (by decide) ?_
  refine lv_sipush (v := (1000 : Int32)) hx hb dX6_add_4 (by decide) ?_
  obtain ⟨r6, hr6, hf⟩ := bd_use hf
  refine cl_S (wn := (wdX6_add G q0 q0_one q0_other q0_third q0_waysTo q0_poly q0_then q0_steps q0_sheet q0_next q0_wide q0_partOf q0_partTimes q0_foundAt k0_one k0_poly k0_then k0_steps k0_sheet k0_next k0_isParted k0_parts k0_found)) (st1 := [.int r6]) C hP hD hS (tX6_within l G p1 (-1000 : Int32) (1000 : Int32) r6 hr6) (va_cwS 3 hts gX6_add_X6_within rfl rfl rfl (by decide +kernel) ⟨Nat.le_of_ble_eq_true rfl, Nat.le_of_ble_eq_true rfl⟩) [] [0, 1, 2, 3, 4, 5, 6] [0, 1, 2, 3, 4, 5, 6] rfl rfl rfl rfl (by decide) rfl rfl rfl hl.1 rfl rfl (Nat.le_of_ble_eq_true rfl) dX6_add_7 (fun H locs hP hD hS => ?_)
  refine lv_if_eq (tgt := 24) hx hb dX6_add_10 (by decide) (fun hc => ?_) (fun hc => ?_)
  · have hf := if_t hc hf
    refine lv_bipush (v := (-2 : Int32)) hx hb dX6_add_24 (by decide) ?_
    cases hf
    exact rt_i C hP hD hS dX6_add_26
  · have hf := if_f hc hf
    refine lv_iload_n hx hb dX6_add_13 rfl (lv_at hl 2 rfl) ?_
    refine lv_aload_n hx hb dX6_add_14 rfl (lv_at hl 0 rfl) ?_
    refine va_get (D := G.1) (ci := 6) (v := .ref q0_one) (C := RX6) (T := TX6) (N := 16) hx hb hts nX6_add_X6 hown hG.1 hP 0 rfl rfl 0 (by decide) (hts _ mX6_add_3) (fun _ h9 => h9) rfl dX6_add_15 ?_
    obtain ⟨r7, hr7, hf⟩ := bd_use hf
    refine cl_S (wn := (wdX6_add G q0 q0_one q0_other q0_third q0_waysTo q0_poly q0_then q0_steps q0_sheet q0_next q0_wide q0_partOf q0_partTimes q0_foundAt r7.2 k0_poly k0_then k0_steps k0_sheet k0_next k0_isParted k0_parts k0_found)) (st1 := [.int r7.1]) C hP hD hS (tX6_lays l G q0_one k0_one p2 r7 hr7) (va_cwS 2 hts gX6_add_X6_lays rfl rfl rfl (by decide +kernel) ⟨Nat.le_of_ble_eq_true rfl, Nat.le_of_ble_eq_true rfl⟩) [1] [0, 2, 3, 4, 5, 6] [0, 6, 1, 2, 3, 4, 5] rfl rfl rfl rfl (by decide) rfl rfl rfl hl.1 rfl rfl (Nat.le_of_ble_eq_true rfl) dX6_add_18 (fun H locs hP hD hS => ?_)
    refine lv_if_ne (tgt := 27) hx hb dX6_add_21 (by decide) (fun hc => ?_) (fun hc => ?_)
    · have hf := if_f hc hf
      refine lv_aload_n hx hb dX6_add_27 rfl (lv_at hl 0 rfl) ?_
      refine va_get (D := G.1) (ci := 6) (v := .ref q0_one) (C := RX6) (T := TX6) (N := 16) hx hb hts nX6_add_X6 hown hG.1 hP 0 rfl rfl 0 (by decide) (hts _ mX6_add_3) (fun _ h9 => h9) rfl dX6_add_28 ?_
      obtain ⟨r8, hr8, hf⟩ := bd_use hf
      refine cl_S (wn := (wdX6_add G q0 q0_one q0_other q0_third q0_waysTo q0_poly q0_then q0_steps q0_sheet q0_next q0_wide q0_partOf q0_partTimes q0_foundAt r7.2 k0_poly k0_then k0_steps k0_sheet k0_next k0_isParted k0_parts k0_found)) (st1 := [.int r8]) C hP hD hS (tX6_isFit l G q0_one r7.2 r8 hr8) (va_cwS 1 hts gX6_add_X6_isFit rfl rfl rfl (by decide +kernel) ⟨Nat.le_of_ble_eq_true rfl, Nat.le_of_ble_eq_true rfl⟩) [1] [0, 2, 3, 4, 5, 6] [0, 6, 1, 2, 3, 4, 5] rfl rfl rfl rfl (by decide) rfl rfl rfl hl.1 rfl rfl (Nat.le_of_ble_eq_true rfl) dX6_add_31 (fun H locs hP hD hS => ?_)
      refine lv_if_ne (tgt := 40) hx hb dX6_add_34 (by decide) (fun hc => ?_) (fun hc => ?_)
      · have hf := if_f hc hf
        refine lv_aload_n hx hb dX6_add_40 rfl (lv_at hl 0 rfl) ?_
        refine lv_aload_n hx hb dX6_add_41 rfl (lv_at hl 0 rfl) ?_
        refine va_get (D := G.1) (ci := 6) (v := .ref q0_one) (C := RX6) (T := TX6) (N := 16) hx hb hts nX6_add_X6 hown hG.1 hP 0 rfl rfl 0 (by decide) (hts _ mX6_add_3) (fun _ h9 => h9) rfl dX6_add_42 ?_
        obtain ⟨r9, hr9, hf⟩ := bd_use hf
        refine cl_V (wn := (wdX6_add G q0 q0_one q0_other q0_third q0_waysTo q0_poly q0_then q0_steps q0_sheet q0_next q0_wide q0_partOf q0_partTimes q0_foundAt r9.2.2.2 r9.1 r9.2.1 r9.2.2.1 k0_sheet k0_next k0_isParted k0_parts k0_found)) (st1 := []) C hP hD hS (tX6_findS l G q0 q0_one q0_other q0_third q0_waysTo q0_poly q0_then q0_steps q0_sheet q0_next q0_wide q0_partOf q0_partTimes q0_foundAt q0_one k0_poly k0_then k0_steps k0_isParted k0_parts k0_found r7.2 r9 hr9) (cwV 1 hts gX6_add_X6_findS rfl rfl rfl (by decide +kernel) ⟨Nat.le_of_ble_eq_true rfl, Nat.le_of_ble_eq_true rfl⟩) [0, 2, 3, 4, 1] [5, 6] [2, 6, 3, 4, 5, 0, 1] rfl rfl rfl rfl (by decide) rfl rfl (ci := 6) (q0 := 0) rfl rfl rfl rfl hl.1 rfl rfl (Nat.le_of_ble_eq_true rfl) dX6_add_45 (fun H locs hP hD hS => ?_)
        refine lv_iconst (v := (0 : Int32)) hx hb dX6_add_48 (by decide) ?_
        refine lv_istore_n (lv' := [(3, .int (0 : Int32)), (0, .ref q0), (1, .int p1), (2, .int p2)]) hx hb dX6_add_49 rfl hl (by decide) rfl (fun ls hl => ?_)
        exact wX6_add_50 C q0 q0_one q0_other q0_third q0_waysTo q0_poly q0_then q0_steps q0_sheet q0_next q0_wide q0_partOf q0_partTimes q0_foundAt k0_parts k0_found p1 p2 res fu r9.2.2.2 r9.1 r9.2.1 r9.2.2.1 k0_sheet k0_next k0_isParted (0 : Int32) _ _ ls hf hP hD hS (lv_sub hl [1, 2, 0] rfl)
      · have hf := if_t hc hf
        refine lv_bipush (v := (-3 : Int32)) hx hb dX6_add_37 (by decide) ?_
        cases hf
        exact rt_i C hP hD hS dX6_add_39
    · have hf := if_t hc hf
      refine lv_bipush (v := (-2 : Int32)) hx hb dX6_add_24 (by decide) ?_
      cases hf
      exact rt_i C hP hD hS dX6_add_26
abbrev wdX6_wideOf (G : GX) : va_W := []
abbrev rmX6_wideOf : Room := { frames := 1, cells := 0, slots := 0, locals := 21 }
abbrev glX6_wideOf (p : Program) (l : Launch) (e : Env) (s : State) (m : MethodId) (args : Array Value) (below : List Frame) (meth : Method) (c : Code) (G : GX) (A : Nat → Prop) (res : Int32) (H : Heap) (locs : List Loc) (pc : Nat) (ls : Array Slot) (st : List Value) : Prop := W p l e rmX6_wideOf s m args below meth c H locs 0 0 (MQ below (ctQ G A (wdX6_wideOf G) (some (.int res))) args s 0 0 A) (F0 m pc ls st)
set_option maxHeartbeats 4000000 in
set_option maxRecDepth 100000 in
theorem tX6_wideOf (l : Launch) (G : GX) (p0 : Int32) (res : Int32) (hf : fX6_wideOf p0 = some res) : Ct l yX6_wideOf wsX6_wideOf rmX6_wideOf G [.int p0] (wdX6_wideOf G) (wdX6_wideOf G) (some (.int res)) := by
  refine Ct.of (cc := cX6_wideOf) (nL := 1) (ret := (some .int)) (by decide) rfl (Nat.le_of_ble_eq_true rfl) rfl ?_
  intro p e s m below meth c A ls C hP hD hl
  obtain ⟨hx, hb, hml, hown, hts, hr, hlocks, hA, hG⟩ := id C
  have hS : va_S A s.heap s.heap [] := va_S.rf
  unfold fX6_wideOf at hf
  refine lv_iload_n hx hb dX6_wideOf_0 rfl (lv_at hl 0 rfl) ?_
  refine lv_iconst (v := (1 : Int32)) hx hb dX6_wideOf_1 (by decide) ?_
  obtain ⟨r1, hr1, hf⟩ := bd_use hf
  refine cl_S (wn := (wdX6_wideOf G)) (st1 := [.int r1]) C hP hD hS (tX6_exponentAt l G p0 (1 : Int32) r1 hr1) (va_cwS 2 hts gX6_wideOf_X6_exponentAt rfl rfl rfl (by decide +kernel) ⟨Nat.le_of_ble_eq_true rfl, Nat.le_of_ble_eq_true rfl⟩) [] [] [] rfl rfl rfl rfl (by decide) rfl rfl rfl hl.1 rfl rfl (Nat.le_of_ble_eq_true rfl) dX6_wideOf_2 (fun H locs hP hD hS => ?_)
  refine lv_bipush (v := (15 : Int32)) hx hb dX6_wideOf_5 (by decide) ?_
  refine lv_imul hx hb dX6_wideOf_7 ?_
  refine lv_iload_n hx hb dX6_wideOf_8 rfl (lv_at hl 0 rfl) ?_
  refine lv_iconst (v := (2 : Int32)) hx hb dX6_wideOf_9 (by decide) ?_
  obtain ⟨r2, hr2, hf⟩ := bd_use hf
  refine cl_S (wn := (wdX6_wideOf G)) (st1 := [.int r2, .int (r1 * (15 : Int32))]) C hP hD hS (tX6_exponentAt l G p0 (2 : Int32) r2 hr2) (va_cwS 2 hts gX6_wideOf_X6_exponentAt rfl rfl rfl (by decide +kernel) ⟨Nat.le_of_ble_eq_true rfl, Nat.le_of_ble_eq_true rfl⟩) [] [] [] rfl rfl rfl rfl (by decide) rfl rfl rfl hl.1 rfl rfl (Nat.le_of_ble_eq_true rfl) dX6_wideOf_10 (fun H locs hP hD hS => ?_)
  refine lv_iadd hx hb dX6_wideOf_13 ?_
  refine lv_bipush (v := (13 : Int32)) hx hb dX6_wideOf_14 (by decide) ?_
  refine lv_imul hx hb dX6_wideOf_16 ?_
  refine lv_iload_n hx hb dX6_wideOf_17 rfl (lv_at hl 0 rfl) ?_
  refine lv_iconst (v := (3 : Int32)) hx hb dX6_wideOf_18 (by decide) ?_
  obtain ⟨r3, hr3, hf⟩ := bd_use hf
  refine cl_S (wn := (wdX6_wideOf G)) (st1 := [.int r3, .int (((r1 * (15 : Int32)) + r2) * (13 : Int32))]) C hP hD hS (tX6_exponentAt l G p0 (3 : Int32) r3 hr3) (va_cwS 2 hts gX6_wideOf_X6_exponentAt rfl rfl rfl (by decide +kernel) ⟨Nat.le_of_ble_eq_true rfl, Nat.le_of_ble_eq_true rfl⟩) [] [] [] rfl rfl rfl rfl (by decide) rfl rfl rfl hl.1 rfl rfl (Nat.le_of_ble_eq_true rfl) dX6_wideOf_19 (fun H locs hP hD hS => ?_)
  refine lv_iadd hx hb dX6_wideOf_22 ?_
  refine lv_bipush (v := (11 : Int32)) hx hb dX6_wideOf_23 (by decide) ?_
  refine lv_imul hx hb dX6_wideOf_25 ?_
  refine lv_iload_n hx hb dX6_wideOf_26 rfl (lv_at hl 0 rfl) ?_
  refine lv_iconst (v := (4 : Int32)) hx hb dX6_wideOf_27 (by decide) ?_
  obtain ⟨r4, hr4, hf⟩ := bd_use hf
  refine cl_S (wn := (wdX6_wideOf G)) (st1 := [.int r4, .int (((((r1 * (15 : Int32)) + r2) * (13 : Int32)) + r3) * (11 : Int32))]) C hP hD hS (tX6_exponentAt l G p0 (4 : Int32) r4 hr4) (va_cwS 2 hts gX6_wideOf_X6_exponentAt rfl rfl rfl (by decide +kernel) ⟨Nat.le_of_ble_eq_true rfl, Nat.le_of_ble_eq_true rfl⟩) [] [] [] rfl rfl rfl rfl (by decide) rfl rfl rfl hl.1 rfl rfl (Nat.le_of_ble_eq_true rfl) dX6_wideOf_28 (fun H locs hP hD hS => ?_)
  refine lv_iadd hx hb dX6_wideOf_31 ?_
  cases hf
  exact rt_i C hP hD hS dX6_wideOf_32
abbrev wdX6_findProduct (G : GX) (q0 : Nat) (q0_one : Nat) (q0_other : Nat) (q0_third : Nat) (q0_waysTo : Nat) (q0_poly : Nat) (q0_then : Nat) (q0_steps : Nat) (q0_sheet : Nat) (q0_next : Nat) (q0_wide : Nat) (q0_partOf : Nat) (q0_partTimes : Nat) (q0_foundAt : Nat) (k0_poly : Nat → Int64) (k0_sheet : Nat → Int64) (k0_isParted : Int32) (k0_wide : Nat → Int64) (k0_parts : Int32) (k0_found : Int32) : va_W := [(q0, .inr (6, [.ref q0_one, .ref q0_other, .ref q0_third, .ref q0_waysTo, .ref q0_poly, .ref q0_then, .ref q0_steps, .ref q0_sheet, .ref q0_next, .int k0_isParted, .ref q0_wide, .int k0_parts, .ref q0_partOf, .ref q0_partTimes, .int k0_found, .ref q0_foundAt])), (q0_poly, .inl (G.2.2.1, 3024, .inr (.inl k0_poly))), (q0_sheet, .inl (G.2.2.1, 3024, .inr (.inl k0_sheet))), (q0_wide, .inl (G.2.2.1, 36465, .inr (.inl k0_wide)))]
abbrev rmX6_findProduct : Room := { frames := 2, cells := 0, slots := 0, locals := 41 }
abbrev glX6_findProduct (p : Program) (l : Launch) (e : Env) (s : State) (m : MethodId) (args : Array Value) (below : List Frame) (meth : Method) (c : Code) (G : GX) (A : Nat → Prop) (q0 : Nat) (q0_one : Nat) (q0_other : Nat) (q0_third : Nat) (q0_waysTo : Nat) (q0_poly : Nat) (q0_then : Nat) (q0_steps : Nat) (q0_sheet : Nat) (q0_next : Nat) (q0_wide : Nat) (q0_partOf : Nat) (q0_partTimes : Nat) (q0_foundAt : Nat) (k0_poly : Nat → Int64) (k0_sheet : Nat → Int64) (k0_isParted : Int32) (k0_parts : Int32) (k0_found : Int32) (res : (Nat → Int64)) (H : Heap) (locs : List Loc) (pc : Nat) (ls : Array Slot) (st : List Value) : Prop := W p l e rmX6_findProduct s m args below meth c H locs 0 0 (MQ below (ctQ G A (wdX6_findProduct G q0 q0_one q0_other q0_third q0_waysTo q0_poly q0_then q0_steps q0_sheet q0_next q0_wide q0_partOf q0_partTimes q0_foundAt k0_poly k0_sheet k0_isParted res k0_parts k0_found) none) args s 0 0 A) (F0 m pc ls st)
set_option maxRecDepth 20000 in
theorem mX6_findProduct_0 : Cond.fieldLink RX6 32 "SchubertDeskModel" "sheet" "[J" ∈ wsX6_findProduct := by decide +kernel
set_option maxRecDepth 20000 in
theorem mX6_findProduct_1 : Cond.fieldLink RX6 22 "SchubertDeskModel" "poly" "[J" ∈ wsX6_findProduct := by decide +kernel
set_option maxRecDepth 20000 in
theorem mX6_findProduct_2 : Cond.fieldLink RX6 39 "SchubertDeskModel" "wide" "[J" ∈ wsX6_findProduct := by decide +kernel
set_option maxRecDepth 20000 in
theorem mX6_findProduct_3 : Cond.constant RX6 38 (36465) ∈ wsX6_findProduct := by decide +kernel
set_option maxRecDepth 20000 in
theorem nX6_findProduct_X6 : ∀ w ∈ u_ws RX6 TX6 16, w ∈ wsX6_findProduct := by decide +kernel
set_option maxHeartbeats 4000000 in
set_option maxRecDepth 100000 in
theorem wX6_findProduct_32 {p : Program} {l : Launch} {e : Env} {s : State} {m : MethodId} {args : Array Value} {below : List Frame} {meth : Method} {c : Code} {G : GX} {A : Nat → Prop} (C : Cx p s m args meth c cX6_findProduct 3 none wsX6_findProduct RX6 G A) (q0 : Nat) (q0_one : Nat) (q0_other : Nat) (q0_third : Nat) (q0_waysTo : Nat) (q0_poly : Nat) (q0_then : Nat) (q0_steps : Nat) (q0_sheet : Nat) (q0_next : Nat) (q0_wide : Nat) (q0_partOf : Nat) (q0_partTimes : Nat) (q0_foundAt : Nat) (k0_poly : Nat → Int64) (k0_sheet : Nat → Int64) (k0_isParted : Int32) (k0_parts : Int32) (k0_found : Int32) (res : (Nat → Int64)) (rec23 : (Nat → Int64) → Int32 → Option ((Nat → Int64))) (hr23 : ∀ (k0_wide : Nat → Int64) (x1 : Int32) (H : Heap) (locs : List Loc) (ls : Array Slot), rec23 k0_wide x1 = some res → va_P G.1 vwCl (wdX6_findProduct G q0 q0_one q0_other q0_third q0_waysTo q0_poly q0_then q0_steps q0_sheet q0_next q0_wide q0_partOf q0_partTimes q0_foundAt k0_poly k0_sheet k0_isParted k0_wide k0_parts k0_found) H → va_D A (wdX6_findProduct G q0 q0_one q0_other q0_third q0_waysTo q0_poly q0_then q0_steps q0_sheet q0_next q0_wide q0_partOf q0_partTimes q0_foundAt k0_poly k0_sheet k0_isParted k0_wide k0_parts k0_found) → va_S A s.heap H locs → lv_has ls 3 [(0, .ref q0), (1, .int x1)] → glX6_findProduct p l e s m args below meth c G A q0 q0_one q0_other q0_third q0_waysTo q0_poly q0_then q0_steps q0_sheet q0_next q0_wide q0_partOf q0_partTimes q0_foundAt k0_poly k0_sheet k0_isParted k0_parts k0_found res H locs 23 ls []) (n : Nat) : ∀ (k0_wide : Nat → Int64) (x1 : Int32) (x2 : Int32) (H : Heap) (locs : List Loc) (ls : Array Slot), fX6_findProduct_L32 k0_poly k0_sheet rec23 n k0_wide x1 x2 = some res → va_P G.1 vwCl (wdX6_findProduct G q0 q0_one q0_other q0_third q0_waysTo q0_poly q0_then q0_steps q0_sheet q0_next q0_wide q0_partOf q0_partTimes q0_foundAt k0_poly k0_sheet k0_isParted k0_wide k0_parts k0_found) H → va_D A (wdX6_findProduct G q0 q0_one q0_other q0_third q0_waysTo q0_poly q0_then q0_steps q0_sheet q0_next q0_wide q0_partOf q0_partTimes q0_foundAt k0_poly k0_sheet k0_isParted k0_wide k0_parts k0_found) → va_S A s.heap H locs → lv_has ls 3 [(0, .ref q0), (1, .int x1), (2, .int x2)] → glX6_findProduct p l e s m args below meth c G A q0 q0_one q0_other q0_third q0_waysTo q0_poly q0_then q0_steps q0_sheet q0_next q0_wide q0_partOf q0_partTimes q0_foundAt k0_poly k0_sheet k0_isParted k0_parts k0_found res H locs 32 ls [] := by
  obtain ⟨hx, hb, hml, hown, hts, hr, hlocks, hA, hG⟩ := id C
  induction n with
  | zero => intro k0_wide x1 x2 H locs ls hf hP hD hS hl; cases hf
  | succ n ih =>
    intro k0_wide x1 x2 H locs ls hf hP hD hS hl
    simp only [fX6_findProduct_L32] at hf
    refine lv_iload_n hx hb dX6_findProduct_32 rfl (lv_at hl 2 rfl) ?_
    refine lv_sipush (v := (3024 : Int32)) hx hb dX6_findProduct_33 (by decide) ?_
    refine lv_icmp_ge (tgt := 97) hx hb dX6_findProduct_36 (by decide) (fun hc => ?_) (fun hc => ?_)
    · have hf := if_t hc hf
      obtain ⟨y1, ey1⟩ : ∃ z : Int32, z = x1 + (1 : Int32) := ⟨_, rfl⟩
      have hf := nm_use ey1 hf
      refine lv_iinc (v := y1) (lv' := [(1, .int y1), (0, .ref q0), (2, .int x2)]) hx hb dX6_findProduct_97 hl (k := 1) rfl (by rw [ey1]; rfl) (by decide) rfl (fun ls hl => ?_)
      refine lv_goto (tgt := 23) hx hb dX6_findProduct_100 (by decide) ?_
      exact hr23 k0_wide y1 _ _ ls hf hP hD hS (lv_sub hl [1, 0] rfl)
    · have hf := if_f hc hf
      refine lv_aload_n hx hb dX6_findProduct_39 rfl (lv_at hl 0 rfl) ?_
      refine va_get (D := G.1) (ci := 6) (v := .ref q0_sheet) (C := RX6) (T := TX6) (N := 16) hx hb hts nX6_findProduct_X6 hown hG.1 hP 0 rfl rfl 7 (by decide) (hts _ mX6_findProduct_0) (fun _ h9 => h9) rfl dX6_findProduct_40 ?_
      refine lv_iload_n hx hb dX6_findProduct_43 rfl (lv_at hl 1 rfl) ?_
      obtain ⟨hin, hf⟩ := gJ_use hf
      refine va_lald hx hb hG.1 hP 2 1 rfl rfl hin dX6_findProduct_44 ?_
      refine lv_lconst (v := (0 : Int64)) hx hb dX6_findProduct_45 (by decide) ?_
      refine W.lcmp hx hb dX6_findProduct_46 ?_
      refine lv_if_eq (tgt := 97) hx hb dX6_findProduct_47 (by decide) (fun hc => ?_) (fun hc => ?_)
      · have hf := if_t hc hf
        obtain ⟨y3, ey3⟩ : ∃ z : Int32, z = x1 + (1 : Int32) := ⟨_, rfl⟩
        have hf := nm_use ey3 hf
        refine lv_iinc (v := y3) (lv' := [(1, .int y3), (0, .ref q0), (2, .int x2)]) hx hb dX6_findProduct_97 hl (k := 1) rfl (by rw [ey3]; rfl) (by decide) rfl (fun ls hl => ?_)
        refine lv_goto (tgt := 23) hx hb dX6_findProduct_100 (by decide) ?_
        exact hr23 k0_wide y3 _ _ ls hf hP hD hS (lv_sub hl [1, 0] rfl)
      · have hf := if_f hc hf
        refine lv_aload_n hx hb dX6_findProduct_50 rfl (lv_at hl 0 rfl) ?_
        refine va_get (D := G.1) (ci := 6) (v := .ref q0_poly) (C := RX6) (T := TX6) (N := 16) hx hb hts nX6_findProduct_X6 hown hG.1 hP 0 rfl rfl 4 (by decide) (hts _ mX6_findProduct_1) (fun _ h9 => h9) rfl dX6_findProduct_51 ?_
        refine lv_iload_n hx hb dX6_findProduct_54 rfl (lv_at hl 2 rfl) ?_
        obtain ⟨hin, hf⟩ := gJ_use hf
        refine va_lald hx hb hG.1 hP 1 1 rfl rfl hin dX6_findProduct_55 ?_
        refine lv_lconst (v := (0 : Int64)) hx hb dX6_findProduct_56 (by decide) ?_
        refine W.lcmp hx hb dX6_findProduct_57 ?_
        refine lv_if_eq (tgt := 91) hx hb dX6_findProduct_58 (by decide) (fun hc => ?_) (fun hc => ?_)
        · have hf := if_t hc hf
          obtain ⟨y5, ey5⟩ : ∃ z : Int32, z = x2 + (1 : Int32) := ⟨_, rfl⟩
          have hf := nm_use ey5 hf
          refine lv_iinc (v := y5) (lv' := [(2, .int y5), (0, .ref q0), (1, .int x1)]) hx hb dX6_findProduct_91 hl (k := 2) rfl (by rw [ey5]; rfl) (by decide) rfl (fun ls hl => ?_)
          refine lv_goto (tgt := 32) hx hb dX6_findProduct_94 (by decide) ?_
          exact ih k0_wide x1 y5 _ _ ls hf hP hD hS (lv_sub hl [1, 2, 0] rfl)
        · have hf := if_f hc hf
          refine lv_aload_n hx hb dX6_findProduct_61 rfl (lv_at hl 0 rfl) ?_
          refine va_get (D := G.1) (ci := 6) (v := .ref q0_wide) (C := RX6) (T := TX6) (N := 16) hx hb hts nX6_findProduct_X6 hown hG.1 hP 0 rfl rfl 10 (by decide) (hts _ mX6_findProduct_2) (fun _ h9 => h9) rfl dX6_findProduct_62 ?_
          refine lv_iload_n hx hb dX6_findProduct_65 rfl (lv_at hl 1 rfl) ?_
          obtain ⟨r6, hr6, hf⟩ := bd_use hf
          refine cl_S (wn := (wdX6_findProduct G q0 q0_one q0_other q0_third q0_waysTo q0_poly q0_then q0_steps q0_sheet q0_next q0_wide q0_partOf q0_partTimes q0_foundAt k0_poly k0_sheet k0_isParted k0_wide k0_parts k0_found)) (st1 := [.int r6, .ref q0_wide]) C hP hD hS (tX6_wideOf l G x1 r6 hr6) (va_cwS 1 hts gX6_findProduct_X6_wideOf rfl rfl rfl (by decide +kernel) ⟨Nat.le_of_ble_eq_true rfl, Nat.le_of_ble_eq_true rfl⟩) [] [0, 1, 2, 3] [0, 1, 2, 3] rfl rfl rfl rfl (by decide) rfl rfl rfl hl.1 rfl rfl (Nat.le_of_ble_eq_true rfl) dX6_findProduct_66 (fun H locs hP hD hS => ?_)
          refine lv_iload_n hx hb dX6_findProduct_69 rfl (lv_at hl 2 rfl) ?_
          obtain ⟨r7, hr7, hf⟩ := bd_use hf
          refine cl_S (wn := (wdX6_findProduct G q0 q0_one q0_other q0_third q0_waysTo q0_poly q0_then q0_steps q0_sheet q0_next q0_wide q0_partOf q0_partTimes q0_foundAt k0_poly k0_sheet k0_isParted k0_wide k0_parts k0_found)) (st1 := [.int r7, .int r6, .ref q0_wide]) C hP hD hS (tX6_wideOf l G x2 r7 hr7) (va_cwS 1 hts gX6_findProduct_X6_wideOf rfl rfl rfl (by decide +kernel) ⟨Nat.le_of_ble_eq_true rfl, Nat.le_of_ble_eq_true rfl⟩) [] [0, 1, 2, 3] [0, 1, 2, 3] rfl rfl rfl rfl (by decide) rfl rfl rfl hl.1 rfl rfl (Nat.le_of_ble_eq_true rfl) dX6_findProduct_70 (fun H locs hP hD hS => ?_)
          refine lv_iadd hx hb dX6_findProduct_73 ?_
          refine lv_dup2_11 hx hb dX6_findProduct_74 rfl rfl ?_
          obtain ⟨hin, hf⟩ := gJ_use hf
          refine va_lald hx hb hG.1 hP 3 1 rfl rfl hin dX6_findProduct_75 ?_
          refine lv_aload_n hx hb dX6_findProduct_76 rfl (lv_at hl 0 rfl) ?_
          refine va_get (D := G.1) (ci := 6) (v := .ref q0_sheet) (C := RX6) (T := TX6) (N := 16) hx hb hts nX6_findProduct_X6 hown hG.1 hP 0 rfl rfl 7 (by decide) (hts _ mX6_findProduct_0) (fun _ h9 => h9) rfl dX6_findProduct_77 ?_
          refine lv_iload_n hx hb dX6_findProduct_80 rfl (lv_at hl 1 rfl) ?_
          obtain ⟨hin, hf⟩ := gJ_use hf
          refine va_lald hx hb hG.1 hP 2 1 rfl rfl hin dX6_findProduct_81 ?_
          refine lv_aload_n hx hb dX6_findProduct_82 rfl (lv_at hl 0 rfl) ?_
          refine va_get (D := G.1) (ci := 6) (v := .ref q0_poly) (C := RX6) (T := TX6) (N := 16) hx hb hts nX6_findProduct_X6 hown hG.1 hP 0 rfl rfl 4 (by decide) (hts _ mX6_findProduct_1) (fun _ h9 => h9) rfl dX6_findProduct_83 ?_
          refine lv_iload_n hx hb dX6_findProduct_86 rfl (lv_at hl 2 rfl) ?_
          obtain ⟨hin, hf⟩ := gJ_use hf
          refine va_lald hx hb hG.1 hP 1 1 rfl rfl hin dX6_findProduct_87 ?_
          refine lv_lmul hx hb dX6_findProduct_88 ?_
          refine lv_ladd hx hb dX6_findProduct_89 ?_
          obtain ⟨hin, hf⟩ := pJ_use hf
          refine va_last hx hb hG.1 hP hD hS 3 1 rfl rfl hin dX6_findProduct_90 (fun H locs hP hD hS => ?_)
          have hP : va_P G.1 vwCl (wdX6_findProduct G q0 q0_one q0_other q0_third q0_waysTo q0_poly q0_then q0_steps q0_sheet q0_next q0_wide q0_partOf q0_partTimes q0_foundAt k0_poly k0_sheet k0_isParted (vp_updL k0_wide ((r6 + r7)).toNatClampNeg ((k0_wide ((r6 + r7)).toNatClampNeg) + ((k0_sheet (x1).toNatClampNeg) * (k0_poly (x2).toNatClampNeg)))) k0_parts k0_found) H := hP
          have hD : va_D A (wdX6_findProduct G q0 q0_one q0_other q0_third q0_waysTo q0_poly q0_then q0_steps q0_sheet q0_next q0_wide q0_partOf q0_partTimes q0_foundAt k0_poly k0_sheet k0_isParted (vp_updL k0_wide ((r6 + r7)).toNatClampNeg ((k0_wide ((r6 + r7)).toNatClampNeg) + ((k0_sheet (x1).toNatClampNeg) * (k0_poly (x2).toNatClampNeg)))) k0_parts k0_found) := hD
          obtain ⟨y12, ey12⟩ : ∃ z : Int32, z = x2 + (1 : Int32) := ⟨_, rfl⟩
          have hf := nm_use ey12 hf
          refine lv_iinc (v := y12) (lv' := [(2, .int y12), (0, .ref q0), (1, .int x1)]) hx hb dX6_findProduct_91 hl (k := 2) rfl (by rw [ey12]; rfl) (by decide) rfl (fun ls hl => ?_)
          refine lv_goto (tgt := 32) hx hb dX6_findProduct_94 (by decide) ?_
          exact ih (vp_updL k0_wide ((r6 + r7)).toNatClampNeg ((k0_wide ((r6 + r7)).toNatClampNeg) + ((k0_sheet (x1).toNatClampNeg) * (k0_poly (x2).toNatClampNeg)))) x1 y12 _ _ ls hf hP hD hS (lv_sub hl [1, 2, 0] rfl)
set_option maxHeartbeats 4000000 in
set_option maxRecDepth 100000 in
theorem wX6_findProduct_23 {p : Program} {l : Launch} {e : Env} {s : State} {m : MethodId} {args : Array Value} {below : List Frame} {meth : Method} {c : Code} {G : GX} {A : Nat → Prop} (C : Cx p s m args meth c cX6_findProduct 3 none wsX6_findProduct RX6 G A) (q0 : Nat) (q0_one : Nat) (q0_other : Nat) (q0_third : Nat) (q0_waysTo : Nat) (q0_poly : Nat) (q0_then : Nat) (q0_steps : Nat) (q0_sheet : Nat) (q0_next : Nat) (q0_wide : Nat) (q0_partOf : Nat) (q0_partTimes : Nat) (q0_foundAt : Nat) (k0_poly : Nat → Int64) (k0_sheet : Nat → Int64) (k0_isParted : Int32) (k0_parts : Int32) (k0_found : Int32) (res : (Nat → Int64)) (n : Nat) : ∀ (k0_wide : Nat → Int64) (x1 : Int32) (H : Heap) (locs : List Loc) (ls : Array Slot), fX6_findProduct_L23 k0_poly k0_sheet n k0_wide x1 = some res → va_P G.1 vwCl (wdX6_findProduct G q0 q0_one q0_other q0_third q0_waysTo q0_poly q0_then q0_steps q0_sheet q0_next q0_wide q0_partOf q0_partTimes q0_foundAt k0_poly k0_sheet k0_isParted k0_wide k0_parts k0_found) H → va_D A (wdX6_findProduct G q0 q0_one q0_other q0_third q0_waysTo q0_poly q0_then q0_steps q0_sheet q0_next q0_wide q0_partOf q0_partTimes q0_foundAt k0_poly k0_sheet k0_isParted k0_wide k0_parts k0_found) → va_S A s.heap H locs → lv_has ls 3 [(0, .ref q0), (1, .int x1)] → glX6_findProduct p l e s m args below meth c G A q0 q0_one q0_other q0_third q0_waysTo q0_poly q0_then q0_steps q0_sheet q0_next q0_wide q0_partOf q0_partTimes q0_foundAt k0_poly k0_sheet k0_isParted k0_parts k0_found res H locs 23 ls [] := by
  obtain ⟨hx, hb, hml, hown, hts, hr, hlocks, hA, hG⟩ := id C
  induction n with
  | zero => intro k0_wide x1 H locs ls hf hP hD hS hl; cases hf
  | succ n ih =>
    intro k0_wide x1 H locs ls hf hP hD hS hl
    simp only [fX6_findProduct_L23] at hf
    refine lv_iload_n hx hb dX6_findProduct_23 rfl (lv_at hl 1 rfl) ?_
    refine lv_sipush (v := (3024 : Int32)) hx hb dX6_findProduct_24 (by decide) ?_
    refine lv_icmp_ge (tgt := 103) hx hb dX6_findProduct_27 (by decide) (fun hc => ?_) (fun hc => ?_)
    · have hf := if_t hc hf
      cases hf
      exact rt_v C hP hD hS dX6_findProduct_103
    · have hf := if_f hc hf
      refine lv_iconst (v := (0 : Int32)) hx hb dX6_findProduct_30 (by decide) ?_
      refine lv_istore_n (lv' := [(2, .int (0 : Int32)), (0, .ref q0), (1, .int x1)]) hx hb dX6_findProduct_31 rfl hl (by decide) rfl (fun ls hl => ?_)
      exact wX6_findProduct_32 C q0 q0_one q0_other q0_third q0_waysTo q0_poly q0_then q0_steps q0_sheet q0_next q0_wide q0_partOf q0_partTimes q0_foundAt k0_poly k0_sheet k0_isParted k0_parts k0_found res (fX6_findProduct_L23 k0_poly k0_sheet n) ih fu k0_wide x1 (0 : Int32) _ _ ls hf hP hD hS (lv_sub hl [1, 2, 0] rfl)
set_option maxHeartbeats 4000000 in
set_option maxRecDepth 100000 in
theorem wX6_findProduct_2 {p : Program} {l : Launch} {e : Env} {s : State} {m : MethodId} {args : Array Value} {below : List Frame} {meth : Method} {c : Code} {G : GX} {A : Nat → Prop} (C : Cx p s m args meth c cX6_findProduct 3 none wsX6_findProduct RX6 G A) (q0 : Nat) (q0_one : Nat) (q0_other : Nat) (q0_third : Nat) (q0_waysTo : Nat) (q0_poly : Nat) (q0_then : Nat) (q0_steps : Nat) (q0_sheet : Nat) (q0_next : Nat) (q0_wide : Nat) (q0_partOf : Nat) (q0_partTimes : Nat) (q0_foundAt : Nat) (k0_poly : Nat → Int64) (k0_sheet : Nat → Int64) (k0_isParted : Int32) (k0_parts : Int32) (k0_found : Int32) (res : (Nat → Int64)) (n : Nat) : ∀ (k0_wide : Nat → Int64) (x1 : Int32) (H : Heap) (locs : List Loc) (ls : Array Slot), fX6_findProduct_L2 k0_poly k0_sheet n k0_wide x1 = some res → va_P G.1 vwCl (wdX6_findProduct G q0 q0_one q0_other q0_third q0_waysTo q0_poly q0_then q0_steps q0_sheet q0_next q0_wide q0_partOf q0_partTimes q0_foundAt k0_poly k0_sheet k0_isParted k0_wide k0_parts k0_found) H → va_D A (wdX6_findProduct G q0 q0_one q0_other q0_third q0_waysTo q0_poly q0_then q0_steps q0_sheet q0_next q0_wide q0_partOf q0_partTimes q0_foundAt k0_poly k0_sheet k0_isParted k0_wide k0_parts k0_found) → va_S A s.heap H locs → lv_has ls 3 [(0, .ref q0), (1, .int x1)] → glX6_findProduct p l e s m args below meth c G A q0 q0_one q0_other q0_third q0_waysTo q0_poly q0_then q0_steps q0_sheet q0_next q0_wide q0_partOf q0_partTimes q0_foundAt k0_poly k0_sheet k0_isParted k0_parts k0_found res H locs 2 ls [] := by
  obtain ⟨hx, hb, hml, hown, hts, hr, hlocks, hA, hG⟩ := id C
  induction n with
  | zero => intro k0_wide x1 H locs ls hf hP hD hS hl; cases hf
  | succ n ih =>
    intro k0_wide x1 H locs ls hf hP hD hS hl
    simp only [fX6_findProduct_L2] at hf
    refine lv_iload_n hx hb dX6_findProduct_2 rfl (lv_at hl 1 rfl) ?_
    refine lv_ldc (v := (36465 : Int32)) hx hb hown (hts _ mX6_findProduct_3) dX6_findProduct_3 ?_
    refine lv_icmp_ge (tgt := 21) hx hb dX6_findProduct_5 (by decide) (fun hc => ?_) (fun hc => ?_)
    · have hf := if_t hc hf
      refine lv_iconst (v := (0 : Int32)) hx hb dX6_findProduct_21 (by decide) ?_
      refine lv_istore_n (lv' := [(1, .int (0 : Int32)), (0, .ref q0)]) hx hb dX6_findProduct_22 rfl hl (by decide) rfl (fun ls hl => ?_)
      exact wX6_findProduct_23 C q0 q0_one q0_other q0_third q0_waysTo q0_poly q0_then q0_steps q0_sheet q0_next q0_wide q0_partOf q0_partTimes q0_foundAt k0_poly k0_sheet k0_isParted k0_parts k0_found res fu k0_wide (0 : Int32) _ _ ls hf hP hD hS (lv_sub hl [1, 0] rfl)
    · have hf := if_f hc hf
      refine lv_aload_n hx hb dX6_findProduct_8 rfl (lv_at hl 0 rfl) ?_
      refine va_get (D := G.1) (ci := 6) (v := .ref q0_wide) (C := RX6) (T := TX6) (N := 16) hx hb hts nX6_findProduct_X6 hown hG.1 hP 0 rfl rfl 10 (by decide) (hts _ mX6_findProduct_2) (fun _ h9 => h9) rfl dX6_findProduct_9 ?_
      refine lv_iload_n hx hb dX6_findProduct_12 rfl (lv_at hl 1 rfl) ?_
      refine lv_lconst (v := (0 : Int64)) hx hb dX6_findProduct_13 (by decide) ?_
      obtain ⟨hin, hf⟩ := pJ_use hf
      refine va_last hx hb hG.1 hP hD hS 3 1 rfl rfl hin dX6_findProduct_14 (fun H locs hP hD hS => ?_)
      have hP : va_P G.1 vwCl (wdX6_findProduct G q0 q0_one q0_other q0_third q0_waysTo q0_poly q0_then q0_steps q0_sheet q0_next q0_wide q0_partOf q0_partTimes q0_foundAt k0_poly k0_sheet k0_isParted (vp_updL k0_wide (x1).toNatClampNeg (0 : Int64)) k0_parts k0_found) H := hP
      have hD : va_D A (wdX6_findProduct G q0 q0_one q0_other q0_third q0_waysTo q0_poly q0_then q0_steps q0_sheet q0_next q0_wide q0_partOf q0_partTimes q0_foundAt k0_poly k0_sheet k0_isParted (vp_updL k0_wide (x1).toNatClampNeg (0 : Int64)) k0_parts k0_found) := hD
      obtain ⟨y14, ey14⟩ : ∃ z : Int32, z = x1 + (1 : Int32) := ⟨_, rfl⟩
      have hf := nm_use ey14 hf
      refine lv_iinc (v := y14) (lv' := [(1, .int y14), (0, .ref q0)]) hx hb dX6_findProduct_15 hl (k := 1) rfl (by rw [ey14]; rfl) (by decide) rfl (fun ls hl => ?_)
      refine lv_goto (tgt := 2) hx hb dX6_findProduct_18 (by decide) ?_
      exact ih (vp_updL k0_wide (x1).toNatClampNeg (0 : Int64)) y14 _ _ ls hf hP hD hS (lv_sub hl [1, 0] rfl)
set_option maxHeartbeats 4000000 in
set_option maxRecDepth 100000 in
theorem tX6_findProduct (l : Launch) (G : GX) (q0 : Nat) (q0_one : Nat) (q0_other : Nat) (q0_third : Nat) (q0_waysTo : Nat) (q0_poly : Nat) (q0_then : Nat) (q0_steps : Nat) (q0_sheet : Nat) (q0_next : Nat) (q0_wide : Nat) (q0_partOf : Nat) (q0_partTimes : Nat) (q0_foundAt : Nat) (k0_poly : Nat → Int64) (k0_sheet : Nat → Int64) (k0_isParted : Int32) (k0_wide : Nat → Int64) (k0_parts : Int32) (k0_found : Int32) (res : (Nat → Int64)) (hf : fX6_findProduct k0_poly k0_sheet k0_wide = some res) : Ct l yX6_findProduct wsX6_findProduct rmX6_findProduct G [.ref q0] (wdX6_findProduct G q0 q0_one q0_other q0_third q0_waysTo q0_poly q0_then q0_steps q0_sheet q0_next q0_wide q0_partOf q0_partTimes q0_foundAt k0_poly k0_sheet k0_isParted k0_wide k0_parts k0_found) (wdX6_findProduct G q0 q0_one q0_other q0_third q0_waysTo q0_poly q0_then q0_steps q0_sheet q0_next q0_wide q0_partOf q0_partTimes q0_foundAt k0_poly k0_sheet k0_isParted res k0_parts k0_found) none := by
  refine Ct.of (cc := cX6_findProduct) (nL := 3) (ret := none) (by decide) rfl (Nat.le_of_ble_eq_true rfl) rfl ?_
  intro p e s m below meth c A ls C hP hD hl
  obtain ⟨hx, hb, hml, hown, hts, hr, hlocks, hA, hG⟩ := id C
  have hS : va_S A s.heap s.heap [] := va_S.rf
  unfold fX6_findProduct at hf
  refine lv_iconst (v := (0 : Int32)) hx hb dX6_findProduct_0 (by decide) ?_
  refine lv_istore_n (lv' := [(1, .int (0 : Int32)), (0, .ref q0)]) hx hb dX6_findProduct_1 rfl hl (by decide) rfl (fun ls hl => ?_)
  exact wX6_findProduct_2 C q0 q0_one q0_other q0_third q0_waysTo q0_poly q0_then q0_steps q0_sheet q0_next q0_wide q0_partOf q0_partTimes q0_foundAt k0_poly k0_sheet k0_isParted k0_parts k0_found res fu k0_wide (0 : Int32) _ _ ls hf hP hD hS (lv_sub hl [1, 0] rfl)
abbrev wdX6_keeps (G : GX) (q0 : Nat) (q0_one : Nat) (q0_other : Nat) (q0_third : Nat) (q0_waysTo : Nat) (q0_poly : Nat) (q0_then : Nat) (q0_steps : Nat) (q0_sheet : Nat) (q0_next : Nat) (q0_wide : Nat) (q0_partOf : Nat) (q0_partTimes : Nat) (q0_foundAt : Nat) (k0_next : Nat → Int64) (k0_isParted : Int32) (k0_wide : Nat → Int64) (k0_parts : Int32) (k0_found : Int32) : va_W := [(q0, .inr (6, [.ref q0_one, .ref q0_other, .ref q0_third, .ref q0_waysTo, .ref q0_poly, .ref q0_then, .ref q0_steps, .ref q0_sheet, .ref q0_next, .int k0_isParted, .ref q0_wide, .int k0_parts, .ref q0_partOf, .ref q0_partTimes, .int k0_found, .ref q0_foundAt])), (q0_next, .inl (G.2.2.1, 3024, .inr (.inl k0_next))), (q0_wide, .inl (G.2.2.1, 36465, .inr (.inl k0_wide)))]
abbrev rmX6_keeps : Room := { frames := 2, cells := 0, slots := 0, locals := 41 }
abbrev glX6_keeps (p : Program) (l : Launch) (e : Env) (s : State) (m : MethodId) (args : Array Value) (below : List Frame) (meth : Method) (c : Code) (G : GX) (A : Nat → Prop) (q0 : Nat) (q0_one : Nat) (q0_other : Nat) (q0_third : Nat) (q0_waysTo : Nat) (q0_poly : Nat) (q0_then : Nat) (q0_steps : Nat) (q0_sheet : Nat) (q0_next : Nat) (q0_wide : Nat) (q0_partOf : Nat) (q0_partTimes : Nat) (q0_foundAt : Nat) (k0_isParted : Int32) (k0_parts : Int32) (k0_found : Int32) (res : Int32 × (Nat → Int64) × (Nat → Int64)) (H : Heap) (locs : List Loc) (pc : Nat) (ls : Array Slot) (st : List Value) : Prop := W p l e rmX6_keeps s m args below meth c H locs 0 0 (MQ below (ctQ G A (wdX6_keeps G q0 q0_one q0_other q0_third q0_waysTo q0_poly q0_then q0_steps q0_sheet q0_next q0_wide q0_partOf q0_partTimes q0_foundAt res.2.1 k0_isParted res.2.2 k0_parts k0_found) (some (.int res.1))) args s 0 0 A) (F0 m pc ls st)
set_option maxRecDepth 20000 in
theorem mX6_keeps_0 : Cond.constant RX6 38 (36465) ∈ wsX6_keeps := by decide +kernel
set_option maxRecDepth 20000 in
theorem mX6_keeps_1 : Cond.fieldLink RX6 39 "SchubertDeskModel" "wide" "[J" ∈ wsX6_keeps := by decide +kernel
set_option maxRecDepth 20000 in
theorem mX6_keeps_2 : Cond.fieldLink RX6 35 "SchubertDeskModel" "next" "[J" ∈ wsX6_keeps := by decide +kernel
set_option maxRecDepth 20000 in
theorem nX6_keeps_X6 : ∀ w ∈ u_ws RX6 TX6 16, w ∈ wsX6_keeps := by decide +kernel
set_option maxHeartbeats 4000000 in
set_option maxRecDepth 100000 in
theorem wX6_keeps_44 {p : Program} {l : Launch} {e : Env} {s : State} {m : MethodId} {args : Array Value} {below : List Frame} {meth : Method} {c : Code} {G : GX} {A : Nat → Prop} (C : Cx p s m args meth c cX6_keeps 3 (some .boolean) wsX6_keeps RX6 G A) (q0 : Nat) (q0_one : Nat) (q0_other : Nat) (q0_third : Nat) (q0_waysTo : Nat) (q0_poly : Nat) (q0_then : Nat) (q0_steps : Nat) (q0_sheet : Nat) (q0_next : Nat) (q0_wide : Nat) (q0_partOf : Nat) (q0_partTimes : Nat) (q0_foundAt : Nat) (k0_isParted : Int32) (k0_parts : Int32) (k0_found : Int32) (res : Int32 × (Nat → Int64) × (Nat → Int64)) (n : Nat) : ∀ (k0_next : Nat → Int64) (k0_wide : Nat → Int64) (x1 : Int32) (x2 : Int32) (H : Heap) (locs : List Loc) (ls : Array Slot), fX6_keeps_L44 n k0_next k0_wide x1 x2 = some res → va_P G.1 vwCl (wdX6_keeps G q0 q0_one q0_other q0_third q0_waysTo q0_poly q0_then q0_steps q0_sheet q0_next q0_wide q0_partOf q0_partTimes q0_foundAt k0_next k0_isParted k0_wide k0_parts k0_found) H → va_D A (wdX6_keeps G q0 q0_one q0_other q0_third q0_waysTo q0_poly q0_then q0_steps q0_sheet q0_next q0_wide q0_partOf q0_partTimes q0_foundAt k0_next k0_isParted k0_wide k0_parts k0_found) → va_S A s.heap H locs → lv_has ls 3 [(0, .ref q0), (1, .int x1), (2, .int x2)] → glX6_keeps p l e s m args below meth c G A q0 q0_one q0_other q0_third q0_waysTo q0_poly q0_then q0_steps q0_sheet q0_next q0_wide q0_partOf q0_partTimes q0_foundAt k0_isParted k0_parts k0_found res H locs 44 ls [] := by
  obtain ⟨hx, hb, hml, hown, hts, hr, hlocks, hA, hG⟩ := id C
  induction n with
  | zero => intro k0_next k0_wide x1 x2 H locs ls hf hP hD hS hl; cases hf
  | succ n ih =>
    intro k0_next k0_wide x1 x2 H locs ls hf hP hD hS hl
    simp only [fX6_keeps_L44] at hf
    refine lv_iload_n hx hb dX6_keeps_44 rfl (lv_at hl 2 rfl) ?_
    refine lv_ldc (v := (36465 : Int32)) hx hb hown (hts _ mX6_keeps_0) dX6_keeps_45 ?_
    refine lv_icmp_ge (tgt := 77) hx hb dX6_keeps_47 (by decide) (fun hc => ?_) (fun hc => ?_)
    · have hf := if_t hc hf
      refine lv_iload_n hx hb dX6_keeps_77 rfl (lv_at hl 1 rfl) ?_
      obtain ⟨hz, hf⟩ := bz_use hf
      cases hf
      exact rt_z C hz hP hD hS dX6_keeps_78
    · have hf := if_f hc hf
      refine lv_iload_n hx hb dX6_keeps_50 rfl (lv_at hl 1 rfl) ?_
      refine lv_if_eq (tgt := 69) hx hb dX6_keeps_51 (by decide) (fun hc => ?_) (fun hc => ?_)
      · have hf := if_t hc hf
        refine lv_iconst (v := (0 : Int32)) hx hb dX6_keeps_69 (by decide) ?_
        refine lv_istore_n (lv' := [(1, .int (0 : Int32)), (0, .ref q0), (2, .int x2)]) hx hb dX6_keeps_70 rfl hl (by decide) rfl (fun ls hl => ?_)
        obtain ⟨y1, ey1⟩ : ∃ z : Int32, z = x2 + (1 : Int32) := ⟨_, rfl⟩
        have hf := nm_use ey1 hf
        refine lv_iinc (v := y1) (lv' := [(2, .int y1), (1, .int (0 : Int32)), (0, .ref q0)]) hx hb dX6_keeps_71 hl (k := 2) rfl (by rw [ey1]; rfl) (by decide) rfl (fun ls hl => ?_)
        refine lv_goto (tgt := 44) hx hb dX6_keeps_74 (by decide) ?_
        exact ih k0_next k0_wide (0 : Int32) y1 _ _ ls hf hP hD hS (lv_sub hl [2, 1, 0] rfl)
      · have hf := if_f hc hf
        refine lv_aload_n hx hb dX6_keeps_54 rfl (lv_at hl 0 rfl) ?_
        refine va_get (D := G.1) (ci := 6) (v := .ref q0_wide) (C := RX6) (T := TX6) (N := 16) hx hb hts nX6_keeps_X6 hown hG.1 hP 0 rfl rfl 10 (by decide) (hts _ mX6_keeps_1) (fun _ h9 => h9) rfl dX6_keeps_55 ?_
        refine lv_iload_n hx hb dX6_keeps_58 rfl (lv_at hl 2 rfl) ?_
        obtain ⟨hin, hf⟩ := gJ_use hf
        refine va_lald hx hb hG.1 hP 2 1 rfl rfl hin dX6_keeps_59 ?_
        refine lv_lconst (v := (0 : Int64)) hx hb dX6_keeps_60 (by decide) ?_
        refine W.lcmp hx hb dX6_keeps_61 ?_
        refine lv_if_ne (tgt := 69) hx hb dX6_keeps_62 (by decide) (fun hc => ?_) (fun hc => ?_)
        · have hf := if_f hc hf
          refine lv_iconst (v := (0 : Int32)) hx hb dX6_keeps_69 (by decide) ?_
          refine lv_istore_n (lv' := [(1, .int (0 : Int32)), (0, .ref q0), (2, .int x2)]) hx hb dX6_keeps_70 rfl hl (by decide) rfl (fun ls hl => ?_)
          obtain ⟨y3, ey3⟩ : ∃ z : Int32, z = x2 + (1 : Int32) := ⟨_, rfl⟩
          have hf := nm_use ey3 hf
          refine lv_iinc (v := y3) (lv' := [(2, .int y3), (1, .int (0 : Int32)), (0, .ref q0)]) hx hb dX6_keeps_71 hl (k := 2) rfl (by rw [ey3]; rfl) (by decide) rfl (fun ls hl => ?_)
          refine lv_goto (tgt := 44) hx hb dX6_keeps_74 (by decide) ?_
          exact ih k0_next k0_wide (0 : Int32) y3 _ _ ls hf hP hD hS (lv_sub hl [2, 1, 0] rfl)
        · have hf := if_t hc hf
          refine lv_iconst (v := (1 : Int32)) hx hb dX6_keeps_65 (by decide) ?_
          refine lv_goto (tgt := 70) hx hb dX6_keeps_66 (by decide) ?_
          refine lv_istore_n (lv' := [(1, .int (1 : Int32)), (0, .ref q0), (2, .int x2)]) hx hb dX6_keeps_70 rfl hl (by decide) rfl (fun ls hl => ?_)
          obtain ⟨y4, ey4⟩ : ∃ z : Int32, z = x2 + (1 : Int32) := ⟨_, rfl⟩
          have hf := nm_use ey4 hf
          refine lv_iinc (v := y4) (lv' := [(2, .int y4), (1, .int (1 : Int32)), (0, .ref q0)]) hx hb dX6_keeps_71 hl (k := 2) rfl (by rw [ey4]; rfl) (by decide) rfl (fun ls hl => ?_)
          refine lv_goto (tgt := 44) hx hb dX6_keeps_74 (by decide) ?_
          exact ih k0_next k0_wide (1 : Int32) y4 _ _ ls hf hP hD hS (lv_sub hl [2, 1, 0] rfl)
set_option maxHeartbeats 4000000 in
set_option maxRecDepth 100000 in
theorem wX6_keeps_2 {p : Program} {l : Launch} {e : Env} {s : State} {m : MethodId} {args : Array Value} {below : List Frame} {meth : Method} {c : Code} {G : GX} {A : Nat → Prop} (C : Cx p s m args meth c cX6_keeps 3 (some .boolean) wsX6_keeps RX6 G A) (q0 : Nat) (q0_one : Nat) (q0_other : Nat) (q0_third : Nat) (q0_waysTo : Nat) (q0_poly : Nat) (q0_then : Nat) (q0_steps : Nat) (q0_sheet : Nat) (q0_next : Nat) (q0_wide : Nat) (q0_partOf : Nat) (q0_partTimes : Nat) (q0_foundAt : Nat) (k0_isParted : Int32) (k0_parts : Int32) (k0_found : Int32) (res : Int32 × (Nat → Int64) × (Nat → Int64)) (n : Nat) : ∀ (k0_next : Nat → Int64) (k0_wide : Nat → Int64) (x1 : Int32) (H : Heap) (locs : List Loc) (ls : Array Slot), fX6_keeps_L2 n k0_next k0_wide x1 = some res → va_P G.1 vwCl (wdX6_keeps G q0 q0_one q0_other q0_third q0_waysTo q0_poly q0_then q0_steps q0_sheet q0_next q0_wide q0_partOf q0_partTimes q0_foundAt k0_next k0_isParted k0_wide k0_parts k0_found) H → va_D A (wdX6_keeps G q0 q0_one q0_other q0_third q0_waysTo q0_poly q0_then q0_steps q0_sheet q0_next q0_wide q0_partOf q0_partTimes q0_foundAt k0_next k0_isParted k0_wide k0_parts k0_found) → va_S A s.heap H locs → lv_has ls 3 [(0, .ref q0), (1, .int x1)] → glX6_keeps p l e s m args below meth c G A q0 q0_one q0_other q0_third q0_waysTo q0_poly q0_then q0_steps q0_sheet q0_next q0_wide q0_partOf q0_partTimes q0_foundAt k0_isParted k0_parts k0_found res H locs 2 ls [] := by
  obtain ⟨hx, hb, hml, hown, hts, hr, hlocks, hA, hG⟩ := id C
  induction n with
  | zero => intro k0_next k0_wide x1 H locs ls hf hP hD hS hl; cases hf
  | succ n ih =>
    intro k0_next k0_wide x1 H locs ls hf hP hD hS hl
    simp only [fX6_keeps_L2] at hf
    refine lv_iload_n hx hb dX6_keeps_2 rfl (lv_at hl 1 rfl) ?_
    refine lv_sipush (v := (3024 : Int32)) hx hb dX6_keeps_3 (by decide) ?_
    refine lv_icmp_ge (tgt := 40) hx hb dX6_keeps_6 (by decide) (fun hc => ?_) (fun hc => ?_)
    · have hf := if_t hc hf
      refine lv_iconst (v := (1 : Int32)) hx hb dX6_keeps_40 (by decide) ?_
      refine lv_istore_n (lv' := [(1, .int (1 : Int32)), (0, .ref q0)]) hx hb dX6_keeps_41 rfl hl (by decide) rfl (fun ls hl => ?_)
      refine lv_iconst (v := (0 : Int32)) hx hb dX6_keeps_42 (by decide) ?_
      refine lv_istore_n (lv' := [(2, .int (0 : Int32)), (1, .int (1 : Int32)), (0, .ref q0)]) hx hb dX6_keeps_43 rfl hl (by decide) rfl (fun ls hl => ?_)
      exact wX6_keeps_44 C q0 q0_one q0_other q0_third q0_waysTo q0_poly q0_then q0_steps q0_sheet q0_next q0_wide q0_partOf q0_partTimes q0_foundAt k0_isParted k0_parts k0_found res fu k0_next k0_wide (1 : Int32) (0 : Int32) _ _ ls hf hP hD hS (lv_sub hl [2, 1, 0] rfl)
    · have hf := if_f hc hf
      refine lv_aload_n hx hb dX6_keeps_9 rfl (lv_at hl 0 rfl) ?_
      refine va_get (D := G.1) (ci := 6) (v := .ref q0_next) (C := RX6) (T := TX6) (N := 16) hx hb hts nX6_keeps_X6 hown hG.1 hP 0 rfl rfl 8 (by decide) (hts _ mX6_keeps_2) (fun _ h9 => h9) rfl dX6_keeps_10 ?_
      refine lv_iload_n hx hb dX6_keeps_13 rfl (lv_at hl 1 rfl) ?_
      refine lv_aload_n hx hb dX6_keeps_14 rfl (lv_at hl 0 rfl) ?_
      refine va_get (D := G.1) (ci := 6) (v := .ref q0_wide) (C := RX6) (T := TX6) (N := 16) hx hb hts nX6_keeps_X6 hown hG.1 hP 0 rfl rfl 10 (by decide) (hts _ mX6_keeps_1) (fun _ h9 => h9) rfl dX6_keeps_15 ?_
      refine lv_iload_n hx hb dX6_keeps_18 rfl (lv_at hl 1 rfl) ?_
      obtain ⟨r5, hr5, hf⟩ := bd_use hf
      refine cl_S (wn := (wdX6_keeps G q0 q0_one q0_other q0_third q0_waysTo q0_poly q0_then q0_steps q0_sheet q0_next q0_wide q0_partOf q0_partTimes q0_foundAt k0_next k0_isParted k0_wide k0_parts k0_found)) (st1 := [.int r5, .ref q0_wide, .int x1, .ref q0_next]) C hP hD hS (tX6_wideOf l G x1 r5 hr5) (va_cwS 1 hts gX6_keeps_X6_wideOf rfl rfl rfl (by decide +kernel) ⟨Nat.le_of_ble_eq_true rfl, Nat.le_of_ble_eq_true rfl⟩) [] [0, 1, 2] [0, 1, 2] rfl rfl rfl rfl (by decide) rfl rfl rfl hl.1 rfl rfl (Nat.le_of_ble_eq_true rfl) dX6_keeps_19 (fun H locs hP hD hS => ?_)
      obtain ⟨hin, hf⟩ := gJ_use hf
      refine va_lald hx hb hG.1 hP 2 1 rfl rfl hin dX6_keeps_22 ?_
      obtain ⟨hin, hf⟩ := pJ_use hf
      refine va_last hx hb hG.1 hP hD hS 1 1 rfl rfl hin dX6_keeps_23 (fun H locs hP hD hS => ?_)
      have hP : va_P G.1 vwCl (wdX6_keeps G q0 q0_one q0_other q0_third q0_waysTo q0_poly q0_then q0_steps q0_sheet q0_next q0_wide q0_partOf q0_partTimes q0_foundAt (vp_updL k0_next (x1).toNatClampNeg (k0_wide (r5).toNatClampNeg)) k0_isParted k0_wide k0_parts k0_found) H := hP
      have hD : va_D A (wdX6_keeps G q0 q0_one q0_other q0_third q0_waysTo q0_poly q0_then q0_steps q0_sheet q0_next q0_wide q0_partOf q0_partTimes q0_foundAt (vp_updL k0_next (x1).toNatClampNeg (k0_wide (r5).toNatClampNeg)) k0_isParted k0_wide k0_parts k0_found) := hD
      refine lv_aload_n hx hb dX6_keeps_24 rfl (lv_at hl 0 rfl) ?_
      refine va_get (D := G.1) (ci := 6) (v := .ref q0_wide) (C := RX6) (T := TX6) (N := 16) hx hb hts nX6_keeps_X6 hown hG.1 hP 0 rfl rfl 10 (by decide) (hts _ mX6_keeps_1) (fun _ h9 => h9) rfl dX6_keeps_25 ?_
      refine lv_iload_n hx hb dX6_keeps_28 rfl (lv_at hl 1 rfl) ?_
      obtain ⟨r8, hr8, hf⟩ := bd_use hf
      refine cl_S (wn := (wdX6_keeps G q0 q0_one q0_other q0_third q0_waysTo q0_poly q0_then q0_steps q0_sheet q0_next q0_wide q0_partOf q0_partTimes q0_foundAt (vp_updL k0_next (x1).toNatClampNeg (k0_wide (r5).toNatClampNeg)) k0_isParted k0_wide k0_parts k0_found)) (st1 := [.int r8, .ref q0_wide]) C hP hD hS (tX6_wideOf l G x1 r8 hr8) (va_cwS 1 hts gX6_keeps_X6_wideOf rfl rfl rfl (by decide +kernel) ⟨Nat.le_of_ble_eq_true rfl, Nat.le_of_ble_eq_true rfl⟩) [] [0, 1, 2] [0, 1, 2] rfl rfl rfl rfl (by decide) rfl rfl rfl hl.1 rfl rfl (Nat.le_of_ble_eq_true rfl) dX6_keeps_29 (fun H locs hP hD hS => ?_)
      refine lv_lconst (v := (0 : Int64)) hx hb dX6_keeps_32 (by decide) ?_
      obtain ⟨hin, hf⟩ := pJ_use hf
      refine va_last hx hb hG.1 hP hD hS 2 1 rfl rfl hin dX6_keeps_33 (fun H locs hP hD hS => ?_)
      have hP : va_P G.1 vwCl (wdX6_keeps G q0 q0_one q0_other q0_third q0_waysTo q0_poly q0_then q0_steps q0_sheet q0_next q0_wide q0_partOf q0_partTimes q0_foundAt (vp_updL k0_next (x1).toNatClampNeg (k0_wide (r5).toNatClampNeg)) k0_isParted (vp_updL k0_wide (r8).toNatClampNeg (0 : Int64)) k0_parts k0_found) H := hP
      have hD : va_D A (wdX6_keeps G q0 q0_one q0_other q0_third q0_waysTo q0_poly q0_then q0_steps q0_sheet q0_next q0_wide q0_partOf q0_partTimes q0_foundAt (vp_updL k0_next (x1).toNatClampNeg (k0_wide (r5).toNatClampNeg)) k0_isParted (vp_updL k0_wide (r8).toNatClampNeg (0 : Int64)) k0_parts k0_found) := hD
      obtain ⟨y10, ey10⟩ : ∃ z : Int32, z = x1 + (1 : Int32) := ⟨_, rfl⟩
      have hf := nm_use ey10 hf
      refine lv_iinc (v := y10) (lv' := [(1, .int y10), (0, .ref q0)]) hx hb dX6_keeps_34 hl (k := 1) rfl (by rw [ey10]; rfl) (by decide) rfl (fun ls hl => ?_)
      refine lv_goto (tgt := 2) hx hb dX6_keeps_37 (by decide) ?_
      exact ih (vp_updL k0_next (x1).toNatClampNeg (k0_wide (r5).toNatClampNeg)) (vp_updL k0_wide (r8).toNatClampNeg (0 : Int64)) y10 _ _ ls hf hP hD hS (lv_sub hl [1, 0] rfl)
set_option maxHeartbeats 4000000 in
set_option maxRecDepth 100000 in
theorem tX6_keeps (l : Launch) (G : GX) (q0 : Nat) (q0_one : Nat) (q0_other : Nat) (q0_third : Nat) (q0_waysTo : Nat) (q0_poly : Nat) (q0_then : Nat) (q0_steps : Nat) (q0_sheet : Nat) (q0_next : Nat) (q0_wide : Nat) (q0_partOf : Nat) (q0_partTimes : Nat) (q0_foundAt : Nat) (k0_next : Nat → Int64) (k0_isParted : Int32) (k0_wide : Nat → Int64) (k0_parts : Int32) (k0_found : Int32) (res : Int32 × (Nat → Int64) × (Nat → Int64)) (hf : fX6_keeps k0_next k0_wide = some res) : Ct l yX6_keeps wsX6_keeps rmX6_keeps G [.ref q0] (wdX6_keeps G q0 q0_one q0_other q0_third q0_waysTo q0_poly q0_then q0_steps q0_sheet q0_next q0_wide q0_partOf q0_partTimes q0_foundAt k0_next k0_isParted k0_wide k0_parts k0_found) (wdX6_keeps G q0 q0_one q0_other q0_third q0_waysTo q0_poly q0_then q0_steps q0_sheet q0_next q0_wide q0_partOf q0_partTimes q0_foundAt res.2.1 k0_isParted res.2.2 k0_parts k0_found) (some (.int res.1)) := by
  refine Ct.of (cc := cX6_keeps) (nL := 3) (ret := (some .boolean)) (by decide) rfl (Nat.le_of_ble_eq_true rfl) rfl ?_
  intro p e s m below meth c A ls C hP hD hl
  obtain ⟨hx, hb, hml, hown, hts, hr, hlocks, hA, hG⟩ := id C
  have hS : va_S A s.heap s.heap [] := va_S.rf
  unfold fX6_keeps at hf
  refine lv_iconst (v := (0 : Int32)) hx hb dX6_keeps_0 (by decide) ?_
  refine lv_istore_n (lv' := [(1, .int (0 : Int32)), (0, .ref q0)]) hx hb dX6_keeps_1 rfl hl (by decide) rfl (fun ls hl => ?_)
  exact wX6_keeps_2 C q0 q0_one q0_other q0_third q0_waysTo q0_poly q0_then q0_steps q0_sheet q0_next q0_wide q0_partOf q0_partTimes q0_foundAt k0_isParted k0_parts k0_found res fu k0_next k0_wide (0 : Int32) _ _ ls hf hP hD hS (lv_sub hl [1, 0] rfl)
abbrev wdX6_multiply (G : GX) (q0 : Nat) (q0_one : Nat) (q0_other : Nat) (q0_third : Nat) (q0_waysTo : Nat) (q0_poly : Nat) (q0_then : Nat) (q0_steps : Nat) (q0_sheet : Nat) (q0_next : Nat) (q0_wide : Nat) (q0_partOf : Nat) (q0_partTimes : Nat) (q0_foundAt : Nat) (k0_one : Nat → Int32) (k0_poly : Nat → Int64) (k0_then : Nat → Int64) (k0_steps : Nat → Int32) (k0_sheet : Nat → Int64) (k0_next : Nat → Int64) (k0_isParted : Int32) (k0_wide : Nat → Int64) (k0_parts : Int32) (k0_found : Int32) : va_W := [(q0, .inr (6, [.ref q0_one, .ref q0_other, .ref q0_third, .ref q0_waysTo, .ref q0_poly, .ref q0_then, .ref q0_steps, .ref q0_sheet, .ref q0_next, .int k0_isParted, .ref q0_wide, .int k0_parts, .ref q0_partOf, .ref q0_partTimes, .int k0_found, .ref q0_foundAt])), (q0_one, .inl (G.2.1, 10, .inl k0_one)), (q0_poly, .inl (G.2.2.1, 3024, .inr (.inl k0_poly))), (q0_then, .inl (G.2.2.1, 3024, .inr (.inl k0_then))), (q0_steps, .inl (G.2.1, 64, .inl k0_steps)), (q0_sheet, .inl (G.2.2.1, 3024, .inr (.inl k0_sheet))), (q0_next, .inl (G.2.2.1, 3024, .inr (.inl k0_next))), (q0_wide, .inl (G.2.2.1, 36465, .inr (.inl k0_wide)))]
abbrev rmX6_multiply : Room := { frames := 3, cells := 0, slots := 0, locals := 76 }
abbrev glX6_multiply (p : Program) (l : Launch) (e : Env) (s : State) (m : MethodId) (args : Array Value) (below : List Frame) (meth : Method) (c : Code) (G : GX) (A : Nat → Prop) (q0 : Nat) (q0_one : Nat) (q0_other : Nat) (q0_third : Nat) (q0_waysTo : Nat) (q0_poly : Nat) (q0_then : Nat) (q0_steps : Nat) (q0_sheet : Nat) (q0_next : Nat) (q0_wide : Nat) (q0_partOf : Nat) (q0_partTimes : Nat) (q0_foundAt : Nat) (k0_parts : Int32) (k0_found : Int32) (res : Int32 × (Nat → Int32) × (Nat → Int64) × (Nat → Int64) × (Nat → Int32) × (Nat → Int64) × (Nat → Int64) × Int32 × (Nat → Int64)) (H : Heap) (locs : List Loc) (pc : Nat) (ls : Array Slot) (st : List Value) : Prop := W p l e rmX6_multiply s m args below meth c H locs 0 0 (MQ below (ctQ G A (wdX6_multiply G q0 q0_one q0_other q0_third q0_waysTo q0_poly q0_then q0_steps q0_sheet q0_next q0_wide q0_partOf q0_partTimes q0_foundAt res.2.1 res.2.2.1 res.2.2.2.1 res.2.2.2.2.1 res.2.2.2.2.2.1 res.2.2.2.2.2.2.1 res.2.2.2.2.2.2.2.1 res.2.2.2.2.2.2.2.2 k0_parts k0_found) (some (.int res.1))) args s 0 0 A) (F0 m pc ls st)
set_option maxRecDepth 20000 in
theorem mX6_multiply_0 : Cond.fieldLink RX6 7 "SchubertDeskModel" "one" "[I" ∈ wsX6_multiply := by decide +kernel
set_option maxRecDepth 20000 in
theorem nX6_multiply_X6 : ∀ w ∈ u_ws RX6 TX6 16, w ∈ wsX6_multiply := by decide +kernel
set_option maxHeartbeats 4000000 in
set_option maxRecDepth 100000 in
theorem tX6_multiply (l : Launch) (G : GX) (q0 : Nat) (q0_one : Nat) (q0_other : Nat) (q0_third : Nat) (q0_waysTo : Nat) (q0_poly : Nat) (q0_then : Nat) (q0_steps : Nat) (q0_sheet : Nat) (q0_next : Nat) (q0_wide : Nat) (q0_partOf : Nat) (q0_partTimes : Nat) (q0_foundAt : Nat) (k0_one : Nat → Int32) (k0_poly : Nat → Int64) (k0_then : Nat → Int64) (k0_steps : Nat → Int32) (k0_sheet : Nat → Int64) (k0_next : Nat → Int64) (k0_isParted : Int32) (k0_wide : Nat → Int64) (k0_parts : Int32) (k0_found : Int32) (p1 : Int32) (res : Int32 × (Nat → Int32) × (Nat → Int64) × (Nat → Int64) × (Nat → Int32) × (Nat → Int64) × (Nat → Int64) × Int32 × (Nat → Int64)) (hf : fX6_multiply k0_one k0_poly k0_then k0_steps k0_sheet k0_next k0_isParted k0_wide p1 = some res) : Ct l yX6_multiply wsX6_multiply rmX6_multiply G [.ref q0, .int p1] (wdX6_multiply G q0 q0_one q0_other q0_third q0_waysTo q0_poly q0_then q0_steps q0_sheet q0_next q0_wide q0_partOf q0_partTimes q0_foundAt k0_one k0_poly k0_then k0_steps k0_sheet k0_next k0_isParted k0_wide k0_parts k0_found) (wdX6_multiply G q0 q0_one q0_other q0_third q0_waysTo q0_poly q0_then q0_steps q0_sheet q0_next q0_wide q0_partOf q0_partTimes q0_foundAt res.2.1 res.2.2.1 res.2.2.2.1 res.2.2.2.2.1 res.2.2.2.2.2.1 res.2.2.2.2.2.2.1 res.2.2.2.2.2.2.2.1 res.2.2.2.2.2.2.2.2 k0_parts k0_found) (some (.int res.1)) := by
  refine Ct.of (cc := cX6_multiply) (nL := 2) (ret := (some .int)) (by decide) rfl (Nat.le_of_ble_eq_true rfl) rfl ?_
  intro p e s m below meth c A ls C hP hD hl
  obtain ⟨hx, hb, hml, hown, hts, hr, hlocks, hA, hG⟩ := id C
  have hS : va_S A s.heap s.heap [] := va_S.rf
  unfold fX6_multiply at hf
  refine lv_iload_n hx hb dX6_multiply_0 rfl (lv_at hl 1 rfl) ?_
  refine lv_aload_n hx hb dX6_multiply_1 rfl (lv_at hl 0 rfl) ?_
  refine va_get (D := G.1) (ci := 6) (v := .ref q0_one) (C := RX6) (T := TX6) (N := 16) hx hb hts nX6_multiply_X6 hown hG.1 hP 0 rfl rfl 0 (by decide) (hts _ mX6_multiply_0) (fun _ h9 => h9) rfl dX6_multiply_2 ?_
  obtain ⟨r1, hr1, hf⟩ := bd_use hf
  refine cl_S (wn := (wdX6_multiply G q0 q0_one q0_other q0_third q0_waysTo q0_poly q0_then q0_steps q0_sheet q0_next q0_wide q0_partOf q0_partTimes q0_foundAt r1.2 k0_poly k0_then k0_steps k0_sheet k0_next k0_isParted k0_wide k0_parts k0_found)) (st1 := [.int r1.1]) C hP hD hS (tX6_lays l G q0_one k0_one p1 r1 hr1) (va_cwS 2 hts gX6_multiply_X6_lays rfl rfl rfl (by decide +kernel) ⟨Nat.le_of_ble_eq_true rfl, Nat.le_of_ble_eq_true rfl⟩) [1] [0, 2, 3, 4, 5, 6, 7] [0, 7, 1, 2, 3, 4, 5, 6] rfl rfl rfl rfl (by decide) rfl rfl rfl hl.1 rfl rfl (Nat.le_of_ble_eq_true rfl) dX6_multiply_5 (fun H locs hP hD hS => ?_)
  refine lv_if_ne (tgt := 14) hx hb dX6_multiply_8 (by decide) (fun hc => ?_) (fun hc => ?_)
  · have hf := if_f hc hf
    refine lv_aload_n hx hb dX6_multiply_14 rfl (lv_at hl 0 rfl) ?_
    refine va_get (D := G.1) (ci := 6) (v := .ref q0_one) (C := RX6) (T := TX6) (N := 16) hx hb hts nX6_multiply_X6 hown hG.1 hP 0 rfl rfl 0 (by decide) (hts _ mX6_multiply_0) (fun _ h9 => h9) rfl dX6_multiply_15 ?_
    obtain ⟨r2, hr2, hf⟩ := bd_use hf
    refine cl_S (wn := (wdX6_multiply G q0 q0_one q0_other q0_third q0_waysTo q0_poly q0_then q0_steps q0_sheet q0_next q0_wide q0_partOf q0_partTimes q0_foundAt r1.2 k0_poly k0_then k0_steps k0_sheet k0_next k0_isParted k0_wide k0_parts k0_found)) (st1 := [.int r2]) C hP hD hS (tX6_isFit l G q0_one r1.2 r2 hr2) (va_cwS 1 hts gX6_multiply_X6_isFit rfl rfl rfl (by decide +kernel) ⟨Nat.le_of_ble_eq_true rfl, Nat.le_of_ble_eq_true rfl⟩) [1] [0, 2, 3, 4, 5, 6, 7] [0, 7, 1, 2, 3, 4, 5, 6] rfl rfl rfl rfl (by decide) rfl rfl rfl hl.1 rfl rfl (Nat.le_of_ble_eq_true rfl) dX6_multiply_18 (fun H locs hP hD hS => ?_)
    refine lv_if_ne (tgt := 27) hx hb dX6_multiply_21 (by decide) (fun hc => ?_) (fun hc => ?_)
    · have hf := if_f hc hf
      refine lv_aload_n hx hb dX6_multiply_27 rfl (lv_at hl 0 rfl) ?_
      refine lv_aload_n hx hb dX6_multiply_28 rfl (lv_at hl 0 rfl) ?_
      refine va_get (D := G.1) (ci := 6) (v := .ref q0_one) (C := RX6) (T := TX6) (N := 16) hx hb hts nX6_multiply_X6 hown hG.1 hP 0 rfl rfl 0 (by decide) (hts _ mX6_multiply_0) (fun _ h9 => h9) rfl dX6_multiply_29 ?_
      obtain ⟨r3, hr3, hf⟩ := bd_use hf
      refine cl_V (wn := (wdX6_multiply G q0 q0_one q0_other q0_third q0_waysTo q0_poly q0_then q0_steps q0_sheet q0_next q0_wide q0_partOf q0_partTimes q0_foundAt r3.2.2.2 r3.1 r3.2.1 r3.2.2.1 k0_sheet k0_next k0_isParted k0_wide k0_parts k0_found)) (st1 := []) C hP hD hS (tX6_findS l G q0 q0_one q0_other q0_third q0_waysTo q0_poly q0_then q0_steps q0_sheet q0_next q0_wide q0_partOf q0_partTimes q0_foundAt q0_one k0_poly k0_then k0_steps k0_isParted k0_parts k0_found r1.2 r3 hr3) (cwV 1 hts gX6_multiply_X6_findS rfl rfl rfl (by decide +kernel) ⟨Nat.le_of_ble_eq_true rfl, Nat.le_of_ble_eq_true rfl⟩) [0, 2, 3, 4, 1] [5, 6, 7] [3, 7, 4, 5, 6, 0, 1, 2] rfl rfl rfl rfl (by decide) rfl rfl (ci := 6) (q0 := 0) rfl rfl rfl rfl hl.1 rfl rfl (Nat.le_of_ble_eq_true rfl) dX6_multiply_32 (fun H locs hP hD hS => ?_)
      refine lv_aload_n hx hb dX6_multiply_35 rfl (lv_at hl 0 rfl) ?_
      obtain ⟨r4, hr4, hf⟩ := bd_use hf
      refine cl_V (wn := (wdX6_multiply G q0 q0_one q0_other q0_third q0_waysTo q0_poly q0_then q0_steps q0_sheet q0_next q0_wide q0_partOf q0_partTimes q0_foundAt r3.2.2.2 r3.1 r3.2.1 r3.2.2.1 k0_sheet k0_next k0_isParted r4 k0_parts k0_found)) (st1 := []) C hP hD hS (tX6_findProduct l G q0 q0_one q0_other q0_third q0_waysTo q0_poly q0_then q0_steps q0_sheet q0_next q0_wide q0_partOf q0_partTimes q0_foundAt r3.1 k0_sheet k0_isParted k0_wide k0_parts k0_found r4 hr4) (cwV 0 hts gX6_multiply_X6_findProduct rfl rfl rfl (by decide +kernel) ⟨Nat.le_of_ble_eq_true rfl, Nat.le_of_ble_eq_true rfl⟩) [0, 2, 5, 7] [1, 3, 4, 6] [4, 0, 5, 1, 2, 6, 3, 7] rfl rfl rfl rfl (by decide) rfl rfl (ci := 6) (q0 := 0) rfl rfl rfl rfl hl.1 rfl rfl (Nat.le_of_ble_eq_true rfl) dX6_multiply_36 (fun H locs hP hD hS => ?_)
      refine lv_aload_n hx hb dX6_multiply_39 rfl (lv_at hl 0 rfl) ?_
      obtain ⟨r5, hr5, hf⟩ := bd_use hf
      refine cl_V (wn := (wdX6_multiply G q0 q0_one q0_other q0_third q0_waysTo q0_poly q0_then q0_steps q0_sheet q0_next q0_wide q0_partOf q0_partTimes q0_foundAt r3.2.2.2 r3.1 r3.2.1 r3.2.2.1 k0_sheet r5.2.1 k0_isParted r5.2.2 k0_parts k0_found)) (st1 := [.int r5.1]) C hP hD hS (tX6_keeps l G q0 q0_one q0_other q0_third q0_waysTo q0_poly q0_then q0_steps q0_sheet q0_next q0_wide q0_partOf q0_partTimes q0_foundAt k0_next k0_isParted r4 k0_parts k0_found r5 hr5) (cwV 0 hts gX6_multiply_X6_keeps rfl rfl rfl (by decide +kernel) ⟨Nat.le_of_ble_eq_true rfl, Nat.le_of_ble_eq_true rfl⟩) [0, 6, 7] [1, 2, 3, 4, 5] [5, 0, 1, 2, 3, 4, 6, 7] rfl rfl rfl rfl (by decide) rfl rfl (ci := 6) (q0 := 0) rfl rfl rfl rfl hl.1 rfl rfl (Nat.le_of_ble_eq_true rfl) dX6_multiply_40 (fun H locs hP hD hS => ?_)
      refine lv_if_eq (tgt := 53) hx hb dX6_multiply_43 (by decide) (fun hc => ?_) (fun hc => ?_)
      · have hf := if_t hc hf
        refine lv_bipush (v := (-5 : Int32)) hx hb dX6_multiply_53 (by decide) ?_
        cases hf
        exact rt_i C hP hD hS dX6_multiply_55
      · have hf := if_f hc hf
        refine lv_aload_n hx hb dX6_multiply_46 rfl (lv_at hl 0 rfl) ?_
        obtain ⟨r6, hr6, hf⟩ := bd_use hf
        refine cl_V (wn := (wdX6_multiply G q0 q0_one q0_other q0_third q0_waysTo q0_poly q0_then q0_steps q0_sheet q0_next q0_wide q0_partOf q0_partTimes q0_foundAt r3.2.2.2 r3.1 r3.2.1 r3.2.2.1 r6.2.1 r5.2.1 r6.2.2 r5.2.2 k0_parts k0_found)) (st1 := [.int r6.1]) C hP hD hS (tX6_becomes l G q0 q0_one q0_other q0_third q0_waysTo q0_poly q0_then q0_steps q0_sheet q0_next q0_wide q0_partOf q0_partTimes q0_foundAt k0_sheet r5.2.1 k0_isParted k0_parts k0_found r6 hr6) (cwV 0 hts gX6_multiply_X6_becomes rfl rfl rfl (by decide +kernel) ⟨Nat.le_of_ble_eq_true rfl, Nat.le_of_ble_eq_true rfl⟩) [0, 5, 6] [1, 2, 3, 4, 7] [5, 0, 1, 2, 3, 6, 7, 4] rfl rfl rfl rfl (by decide) rfl rfl (ci := 6) (q0 := 0) rfl rfl rfl rfl hl.1 rfl rfl (Nat.le_of_ble_eq_true rfl) dX6_multiply_47 (fun H locs hP hD hS => ?_)
        refine lv_goto (tgt := 55) hx hb dX6_multiply_50 (by decide) ?_
        cases hf
        exact rt_i C hP hD hS dX6_multiply_55
    · have hf := if_t hc hf
      refine lv_bipush (v := (-3 : Int32)) hx hb dX6_multiply_24 (by decide) ?_
      cases hf
      exact rt_i C hP hD hS dX6_multiply_26
  · have hf := if_t hc hf
    refine lv_bipush (v := (-2 : Int32)) hx hb dX6_multiply_11 (by decide) ?_
    cases hf
    exact rt_i C hP hD hS dX6_multiply_13
