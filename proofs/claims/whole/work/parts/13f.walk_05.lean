abbrev wdX3_lendCells (G : GX) (q0 : Nat) (q0_counts : Nat) (q0_numbers : Nat) (k0_known : Int32) : va_W := [(q0, .inr (3, [.ref q0_counts, .ref q0_numbers, .int k0_known]))]
abbrev rmX3_lendCells : Room := { frames := 1, cells := 0, slots := 0, locals := 20 }
abbrev glX3_lendCells (p : Program) (l : Launch) (e : Env) (s : State) (m : MethodId) (args : Array Value) (below : List Frame) (meth : Method) (c : Code) (G : GX) (A : Nat → Prop) (q0 : Nat) (q0_counts : Nat) (q0_numbers : Nat) (res : Int32) (H : Heap) (locs : List Loc) (pc : Nat) (ls : Array Slot) (st : List Value) : Prop := W p l e rmX3_lendCells s m args below meth c H locs 0 0 (MQ below (ctQ G A (wdX3_lendCells G q0 q0_counts q0_numbers res) (some (.ref q0_counts))) args s 0 0 A) (F0 m pc ls st)
set_option maxRecDepth 20000 in
theorem mX3_lendCells_0 : Cond.fieldLink RX3 12 "SchubertDesk$Parts" "counts" "LSchubertDesk$Grid;" ∈ wsX3_lendCells := by decide +kernel
set_option maxRecDepth 20000 in
theorem nX3_lendCells_X3 : ∀ w ∈ u_ws RX3 TX3 3, w ∈ wsX3_lendCells := by decide +kernel
set_option maxHeartbeats 4000000 in
set_option maxRecDepth 100000 in
theorem tX3_lendCells (l : Launch) (G : GX) (q0 : Nat) (q0_counts : Nat) (q0_numbers : Nat) (k0_known : Int32) (res : Int32) (hf : fX3_lendCells k0_known = some res) : Ct l yX3_lendCells wsX3_lendCells rmX3_lendCells G [.ref q0] (wdX3_lendCells G q0 q0_counts q0_numbers k0_known) (wdX3_lendCells G q0 q0_counts q0_numbers res) (some (.ref q0_counts)) := by
  refine Ct.of (cc := cX3_lendCells) (nL := 1) (ret := (some (.object "SchubertDesk$Grid"))) (by decide) rfl (Nat.le_of_ble_eq_true rfl) rfl ?_
  intro p e s m below meth c A ls C hP hD hl
  obtain ⟨hx, hb, hml, hown, hts, hr, hlocks, hA, hG⟩ := id C
  have hS : va_S A s.heap s.heap [] := va_S.rf
  unfold fX3_lendCells at hf
  refine lv_aload_n hx hb dX3_lendCells_0 rfl (lv_at hl 0 rfl) ?_
  obtain ⟨r1, hr1, hf⟩ := bd_use hf
  refine cl_V (wn := (wdX3_lendCells G q0 q0_counts q0_numbers r1)) (st1 := []) C hP hD hS (tX3_forget l G q0 q0_counts q0_numbers k0_known r1 hr1) (cwV 0 hts gX3_lendCells_X3_forget rfl rfl rfl (by decide +kernel) ⟨Nat.le_of_ble_eq_true rfl, Nat.le_of_ble_eq_true rfl⟩) [0] [] [0] rfl rfl rfl rfl (by decide) rfl rfl (ci := 3) (q0 := 0) rfl rfl rfl rfl hl.1 rfl rfl (Nat.le_of_ble_eq_true rfl) dX3_lendCells_1 (fun H locs hP hD hS => ?_)
  refine lv_aload_n hx hb dX3_lendCells_4 rfl (lv_at hl 0 rfl) ?_
  refine va_get (D := G.1) (ci := 3) (v := .ref q0_counts) (C := RX3) (T := TX3) (N := 3) hx hb hts nX3_lendCells_X3 hown hG.1 hP 0 rfl rfl 0 (by decide) (hts _ mX3_lendCells_0) (fun _ h9 => h9) rfl dX3_lendCells_5 ?_
  cases hf
  exact rt_a C hP hD hS dX3_lendCells_8
abbrev wdX4_firstRise (G : GX) (q0 : Nat) (q0_grid : Nat) (q0_code : Nat) (q0_way : Nat) (k0_code : Nat → Int32) (k0_made : Int32) : va_W := [(q0, .inr (4, [.ref q0_grid, .ref q0_code, .ref q0_way, .int k0_made])), (q0_code, .inl (G.2.1, 5, .inl k0_code))]
abbrev rmX4_firstRise : Room := { frames := 0, cells := 0, slots := 0, locals := 0 }
abbrev glX4_firstRise (p : Program) (l : Launch) (e : Env) (s : State) (m : MethodId) (args : Array Value) (below : List Frame) (meth : Method) (c : Code) (G : GX) (A : Nat → Prop) (q0 : Nat) (q0_grid : Nat) (q0_code : Nat) (q0_way : Nat) (k0_code : Nat → Int32) (k0_made : Int32) (res : Int32) (H : Heap) (locs : List Loc) (pc : Nat) (ls : Array Slot) (st : List Value) : Prop := W p l e rmX4_firstRise s m args below meth c H locs 0 0 (MQ below (ctQ G A (wdX4_firstRise G q0 q0_grid q0_code q0_way k0_code k0_made) (some (.int res))) args s 0 0 A) (F0 m pc ls st)
set_option maxRecDepth 20000 in
theorem mX4_firstRise_0 : Cond.fieldLink RX4 18 "SchubertDesk$Single" "code" "[I" ∈ wsX4_firstRise := by decide +kernel
set_option maxRecDepth 20000 in
theorem nX4_firstRise_X4 : ∀ w ∈ u_ws RX4 TX4 4, w ∈ wsX4_firstRise := by decide +kernel
set_option maxHeartbeats 4000000 in
set_option maxRecDepth 100000 in
theorem wX4_firstRise_2 {p : Program} {l : Launch} {e : Env} {s : State} {m : MethodId} {args : Array Value} {below : List Frame} {meth : Method} {c : Code} {G : GX} {A : Nat → Prop} (C : Cx p s m args meth c cX4_firstRise 2 (some .int) wsX4_firstRise RX4 G A) (q0 : Nat) (q0_grid : Nat) (q0_code : Nat) (q0_way : Nat) (k0_code : Nat → Int32) (k0_made : Int32) (res : Int32) (n : Nat) : ∀ (x1 : Int32) (H : Heap) (locs : List Loc) (ls : Array Slot), fX4_firstRise_L2 k0_code n x1 = some res → va_P G.1 vwCl (wdX4_firstRise G q0 q0_grid q0_code q0_way k0_code k0_made) H → va_D A (wdX4_firstRise G q0 q0_grid q0_code q0_way k0_code k0_made) → va_S A s.heap H locs → lv_has ls 2 [(0, .ref q0), (1, .int x1)] → glX4_firstRise p l e s m args below meth c G A q0 q0_grid q0_code q0_way k0_code k0_made res H locs 2 ls [] := by
  obtain ⟨hx, hb, hml, hown, hts, hr, hlocks, hA, hG⟩ := id C
  induction n with
  | zero => intro x1 H locs ls hf hP hD hS hl; cases hf
  | succ n ih =>
    intro x1 H locs ls hf hP hD hS hl
    simp only [fX4_firstRise_L2] at hf
    refine lv_iload_n hx hb dX4_firstRise_2 rfl (lv_at hl 1 rfl) ?_
    refine lv_iconst (v := (4 : Int32)) hx hb dX4_firstRise_3 (by decide) ?_
    refine lv_icmp_ge (tgt := 32) hx hb dX4_firstRise_4 (by decide) (fun hc => ?_) (fun hc => ?_)
    · have hf := if_t hc hf
      refine lv_iconst (v := (0 : Int32)) hx hb dX4_firstRise_32 (by decide) ?_
      cases hf
      exact rt_i C hP hD hS dX4_firstRise_33
    · have hf := if_f hc hf
      refine lv_aload_n hx hb dX4_firstRise_7 rfl (lv_at hl 0 rfl) ?_
      refine va_get (D := G.1) (ci := 4) (v := .ref q0_code) (C := RX4) (T := TX4) (N := 4) hx hb hts nX4_firstRise_X4 hown hG.1 hP 0 rfl rfl 1 (by decide) (hts _ mX4_firstRise_0) (fun _ h9 => h9) rfl dX4_firstRise_8 ?_
      refine lv_iload_n hx hb dX4_firstRise_11 rfl (lv_at hl 1 rfl) ?_
      obtain ⟨hin, hf⟩ := gI_use hf
      refine va_iald hx hb hG.1 hP 1 0 rfl rfl hin dX4_firstRise_12 ?_
      refine lv_aload_n hx hb dX4_firstRise_13 rfl (lv_at hl 0 rfl) ?_
      refine va_get (D := G.1) (ci := 4) (v := .ref q0_code) (C := RX4) (T := TX4) (N := 4) hx hb hts nX4_firstRise_X4 hown hG.1 hP 0 rfl rfl 1 (by decide) (hts _ mX4_firstRise_0) (fun _ h9 => h9) rfl dX4_firstRise_14 ?_
      refine lv_iload_n hx hb dX4_firstRise_17 rfl (lv_at hl 1 rfl) ?_
      refine lv_iconst (v := (1 : Int32)) hx hb dX4_firstRise_18 (by decide) ?_
      refine lv_iadd hx hb dX4_firstRise_19 ?_
      obtain ⟨hin, hf⟩ := gI_use hf
      refine va_iald hx hb hG.1 hP 1 0 rfl rfl hin dX4_firstRise_20 ?_
      refine lv_icmp_ge (tgt := 26) hx hb dX4_firstRise_21 (by decide) (fun hc => ?_) (fun hc => ?_)
      · have hf := if_t hc hf
        obtain ⟨y3, ey3⟩ : ∃ z : Int32, z = x1 + (1 : Int32) := ⟨_, rfl⟩
        have hf := nm_use ey3 hf
        refine lv_iinc (v := y3) (lv' := [(1, .int y3), (0, .ref q0)]) hx hb dX4_firstRise_26 hl (k := 1) rfl (by rw [ey3]; rfl) (by decide) rfl (fun ls hl => ?_)
        refine lv_goto (tgt := 2) hx hb dX4_firstRise_29 (by decide) ?_
        exact ih y3 _ _ ls hf hP hD hS (lv_sub hl [1, 0] rfl)
      · have hf := if_f hc hf
        refine lv_iload_n hx hb dX4_firstRise_24 rfl (lv_at hl 1 rfl) ?_
        cases hf
        exact rt_i C hP hD hS dX4_firstRise_25
set_option maxHeartbeats 4000000 in
set_option maxRecDepth 100000 in
theorem tX4_firstRise (l : Launch) (G : GX) (q0 : Nat) (q0_grid : Nat) (q0_code : Nat) (q0_way : Nat) (k0_code : Nat → Int32) (k0_made : Int32) (res : Int32) (hf : fX4_firstRise k0_code = some res) : Ct l yX4_firstRise wsX4_firstRise rmX4_firstRise G [.ref q0] (wdX4_firstRise G q0 q0_grid q0_code q0_way k0_code k0_made) (wdX4_firstRise G q0 q0_grid q0_code q0_way k0_code k0_made) (some (.int res)) := by
  refine Ct.of (cc := cX4_firstRise) (nL := 2) (ret := (some .int)) (by decide) rfl (Nat.le_of_ble_eq_true rfl) rfl ?_
  intro p e s m below meth c A ls C hP hD hl
  obtain ⟨hx, hb, hml, hown, hts, hr, hlocks, hA, hG⟩ := id C
  have hS : va_S A s.heap s.heap [] := va_S.rf
  unfold fX4_firstRise at hf
  refine lv_iconst (v := (1 : Int32)) hx hb dX4_firstRise_0 (by decide) ?_
  refine lv_istore_n (lv' := [(1, .int (1 : Int32)), (0, .ref q0)]) hx hb dX4_firstRise_1 rfl hl (by decide) rfl (fun ls hl => ?_)
  exact wX4_firstRise_2 C q0 q0_grid q0_code q0_way k0_code k0_made res fu (1 : Int32) _ _ ls hf hP hD hS (lv_sub hl [1, 0] rfl)
abbrev wdX4_exchangeAt (G : GX) (q0 : Nat) (q0_grid : Nat) (q0_code : Nat) (q0_way : Nat) (k0_code : Nat → Int32) (k0_made : Int32) : va_W := [(q0, .inr (4, [.ref q0_grid, .ref q0_code, .ref q0_way, .int k0_made])), (q0_code, .inl (G.2.1, 5, .inl k0_code))]
abbrev rmX4_exchangeAt : Room := { frames := 0, cells := 0, slots := 0, locals := 0 }
abbrev glX4_exchangeAt (p : Program) (l : Launch) (e : Env) (s : State) (m : MethodId) (args : Array Value) (below : List Frame) (meth : Method) (c : Code) (G : GX) (A : Nat → Prop) (q0 : Nat) (q0_grid : Nat) (q0_code : Nat) (q0_way : Nat) (k0_made : Int32) (res : (Nat → Int32)) (H : Heap) (locs : List Loc) (pc : Nat) (ls : Array Slot) (st : List Value) : Prop := W p l e rmX4_exchangeAt s m args below meth c H locs 0 0 (MQ below (ctQ G A (wdX4_exchangeAt G q0 q0_grid q0_code q0_way res k0_made) none) args s 0 0 A) (F0 m pc ls st)
set_option maxRecDepth 20000 in
theorem mX4_exchangeAt_0 : Cond.fieldLink RX4 18 "SchubertDesk$Single" "code" "[I" ∈ wsX4_exchangeAt := by decide +kernel
set_option maxRecDepth 20000 in
theorem nX4_exchangeAt_X4 : ∀ w ∈ u_ws RX4 TX4 4, w ∈ wsX4_exchangeAt := by decide +kernel
set_option maxHeartbeats 4000000 in
set_option maxRecDepth 100000 in
theorem tX4_exchangeAt (l : Launch) (G : GX) (q0 : Nat) (q0_grid : Nat) (q0_code : Nat) (q0_way : Nat) (k0_code : Nat → Int32) (k0_made : Int32) (p1 : Int32) (res : (Nat → Int32)) (hf : fX4_exchangeAt k0_code p1 = some res) : Ct l yX4_exchangeAt wsX4_exchangeAt rmX4_exchangeAt G [.ref q0, .int p1] (wdX4_exchangeAt G q0 q0_grid q0_code q0_way k0_code k0_made) (wdX4_exchangeAt G q0 q0_grid q0_code q0_way res k0_made) none := by
  refine Ct.of (cc := cX4_exchangeAt) (nL := 3) (ret := none) (by decide) rfl (Nat.le_of_ble_eq_true rfl) rfl ?_
  intro p e s m below meth c A ls C hP hD hl
  obtain ⟨hx, hb, hml, hown, hts, hr, hlocks, hA, hG⟩ := id C
  have hS : va_S A s.heap s.heap [] := va_S.rf
  unfold fX4_exchangeAt at hf
  refine lv_iload_n hx hb dX4_exchangeAt_0 rfl (lv_at hl 1 rfl) ?_
  refine lv_iconst (v := (1 : Int32)) hx hb dX4_exchangeAt_1 (by decide) ?_
  refine lv_icmp_lt (tgt := 10) hx hb dX4_exchangeAt_2 (by decide) (fun hc => ?_) (fun hc => ?_)
  · have hf := if_t hc hf
    cases hf
    exact rt_v C hP hD hS dX4_exchangeAt_10
  · have hf := if_f hc hf
    refine lv_iload_n hx hb dX4_exchangeAt_5 rfl (lv_at hl 1 rfl) ?_
    refine lv_iconst (v := (4 : Int32)) hx hb dX4_exchangeAt_6 (by decide) ?_
    refine lv_icmp_lt (tgt := 11) hx hb dX4_exchangeAt_7 (by decide) (fun hc => ?_) (fun hc => ?_)
    · have hf := if_t hc hf
      refine lv_aload_n hx hb dX4_exchangeAt_11 rfl (lv_at hl 0 rfl) ?_
      refine va_get (D := G.1) (ci := 4) (v := .ref q0_code) (C := RX4) (T := TX4) (N := 4) hx hb hts nX4_exchangeAt_X4 hown hG.1 hP 0 rfl rfl 1 (by decide) (hts _ mX4_exchangeAt_0) (fun _ h9 => h9) rfl dX4_exchangeAt_12 ?_
      refine lv_iload_n hx hb dX4_exchangeAt_15 rfl (lv_at hl 1 rfl) ?_
      obtain ⟨hin, hf⟩ := gI_use hf
      refine va_iald hx hb hG.1 hP 1 0 rfl rfl hin dX4_exchangeAt_16 ?_
      refine lv_topi (fun y2 ey2 => ?_)
      have hf := nm_use ey2 hf
      refine lv_istore_n (lv' := [(2, .int y2), (0, .ref q0), (1, .int p1)]) hx hb dX4_exchangeAt_17 rfl hl (by decide) rfl (fun ls hl => ?_)
      refine lv_aload_n hx hb dX4_exchangeAt_18 rfl (lv_at hl 1 rfl) ?_
      refine va_get (D := G.1) (ci := 4) (v := .ref q0_code) (C := RX4) (T := TX4) (N := 4) hx hb hts nX4_exchangeAt_X4 hown hG.1 hP 0 rfl rfl 1 (by decide) (hts _ mX4_exchangeAt_0) (fun _ h9 => h9) rfl dX4_exchangeAt_19 ?_
      refine lv_iload_n hx hb dX4_exchangeAt_22 rfl (lv_at hl 2 rfl) ?_
      refine lv_aload_n hx hb dX4_exchangeAt_23 rfl (lv_at hl 1 rfl) ?_
      refine va_get (D := G.1) (ci := 4) (v := .ref q0_code) (C := RX4) (T := TX4) (N := 4) hx hb hts nX4_exchangeAt_X4 hown hG.1 hP 0 rfl rfl 1 (by decide) (hts _ mX4_exchangeAt_0) (fun _ h9 => h9) rfl dX4_exchangeAt_24 ?_
      refine lv_iload_n hx hb dX4_exchangeAt_27 rfl (lv_at hl 2 rfl) ?_
      refine lv_iconst (v := (1 : Int32)) hx hb dX4_exchangeAt_28 (by decide) ?_
      refine lv_iadd hx hb dX4_exchangeAt_29 ?_
      obtain ⟨hin, hf⟩ := gI_use hf
      refine va_iald hx hb hG.1 hP 1 0 rfl rfl hin dX4_exchangeAt_30 ?_
      refine lv_iconst (v := (1 : Int32)) hx hb dX4_exchangeAt_31 (by decide) ?_
      refine lv_iadd hx hb dX4_exchangeAt_32 ?_
      obtain ⟨hin, hf⟩ := pI_use hf
      refine va_iast hx hb hG.1 hP hD hS 1 0 rfl rfl hin dX4_exchangeAt_33 (fun H locs hP hD hS => ?_)
      have hP : va_P G.1 vwCl (wdX4_exchangeAt G q0 q0_grid q0_code q0_way (upd k0_code (p1).toNatClampNeg ((k0_code ((p1 + (1 : Int32))).toNatClampNeg) + (1 : Int32))) k0_made) H := hP
      have hD : va_D A (wdX4_exchangeAt G q0 q0_grid q0_code q0_way (upd k0_code (p1).toNatClampNeg ((k0_code ((p1 + (1 : Int32))).toNatClampNeg) + (1 : Int32))) k0_made) := hD
      refine lv_aload_n hx hb dX4_exchangeAt_34 rfl (lv_at hl 1 rfl) ?_
      refine va_get (D := G.1) (ci := 4) (v := .ref q0_code) (C := RX4) (T := TX4) (N := 4) hx hb hts nX4_exchangeAt_X4 hown hG.1 hP 0 rfl rfl 1 (by decide) (hts _ mX4_exchangeAt_0) (fun _ h9 => h9) rfl dX4_exchangeAt_35 ?_
      refine lv_iload_n hx hb dX4_exchangeAt_38 rfl (lv_at hl 2 rfl) ?_
      refine lv_iconst (v := (1 : Int32)) hx hb dX4_exchangeAt_39 (by decide) ?_
      refine lv_iadd hx hb dX4_exchangeAt_40 ?_
      refine lv_iload_n hx hb dX4_exchangeAt_41 rfl (lv_at hl 0 rfl) ?_
      obtain ⟨hin, hf⟩ := pI_use hf
      refine va_iast hx hb hG.1 hP hD hS 1 0 rfl rfl hin dX4_exchangeAt_42 (fun H locs hP hD hS => ?_)
      have hP : va_P G.1 vwCl (wdX4_exchangeAt G q0 q0_grid q0_code q0_way (upd (upd k0_code (p1).toNatClampNeg ((k0_code ((p1 + (1 : Int32))).toNatClampNeg) + (1 : Int32))) ((p1 + (1 : Int32))).toNatClampNeg y2) k0_made) H := hP
      have hD : va_D A (wdX4_exchangeAt G q0 q0_grid q0_code q0_way (upd (upd k0_code (p1).toNatClampNeg ((k0_code ((p1 + (1 : Int32))).toNatClampNeg) + (1 : Int32))) ((p1 + (1 : Int32))).toNatClampNeg y2) k0_made) := hD
      cases hf
      exact rt_v C hP hD hS dX4_exchangeAt_43
    · have hf := if_f hc hf
      cases hf
      exact rt_v C hP hD hS dX4_exchangeAt_10
abbrev wdX4_climb (G : GX) (q0 : Nat) (q0_grid : Nat) (q0_code : Nat) (q0_way : Nat) (k0_code : Nat → Int32) (k0_way : Nat → Int32) (k0_made : Int32) : va_W := [(q0, .inr (4, [.ref q0_grid, .ref q0_code, .ref q0_way, .int k0_made])), (q0_code, .inl (G.2.1, 5, .inl k0_code)), (q0_way, .inl (G.2.1, 6, .inl k0_way))]
abbrev rmX4_climb : Room := { frames := 1, cells := 0, slots := 0, locals := 22 }
abbrev glX4_climb (p : Program) (l : Launch) (e : Env) (s : State) (m : MethodId) (args : Array Value) (below : List Frame) (meth : Method) (c : Code) (G : GX) (A : Nat → Prop) (q0 : Nat) (q0_grid : Nat) (q0_code : Nat) (q0_way : Nat) (k0_made : Int32) (res : Int32 × (Nat → Int32) × (Nat → Int32)) (H : Heap) (locs : List Loc) (pc : Nat) (ls : Array Slot) (st : List Value) : Prop := W p l e rmX4_climb s m args below meth c H locs 0 0 (MQ below (ctQ G A (wdX4_climb G q0 q0_grid q0_code q0_way res.2.1 res.2.2 k0_made) (some (.int res.1))) args s 0 0 A) (F0 m pc ls st)
set_option maxRecDepth 20000 in
theorem mX4_climb_0 : Cond.fieldLink RX4 22 "SchubertDesk$Single" "way" "[I" ∈ wsX4_climb := by decide +kernel
set_option maxRecDepth 20000 in
theorem nX4_climb_X4 : ∀ w ∈ u_ws RX4 TX4 4, w ∈ wsX4_climb := by decide +kernel
set_option maxHeartbeats 4000000 in
set_option maxRecDepth 100000 in
theorem wX4_climb_7 {p : Program} {l : Launch} {e : Env} {s : State} {m : MethodId} {args : Array Value} {below : List Frame} {meth : Method} {c : Code} {G : GX} {A : Nat → Prop} (C : Cx p s m args meth c cX4_climb 3 (some .int) wsX4_climb RX4 G A) (q0 : Nat) (q0_grid : Nat) (q0_code : Nat) (q0_way : Nat) (k0_made : Int32) (res : Int32 × (Nat → Int32) × (Nat → Int32)) (n : Nat) : ∀ (k0_code : Nat → Int32) (k0_way : Nat → Int32) (x1 : Int32) (x2 : Int32) (H : Heap) (locs : List Loc) (ls : Array Slot), fX4_climb_L7 n k0_code k0_way x1 x2 = some res → va_P G.1 vwCl (wdX4_climb G q0 q0_grid q0_code q0_way k0_code k0_way k0_made) H → va_D A (wdX4_climb G q0 q0_grid q0_code q0_way k0_code k0_way k0_made) → va_S A s.heap H locs → lv_has ls 3 [(0, .ref q0), (1, .int x1), (2, .int x2)] → glX4_climb p l e s m args below meth c G A q0 q0_grid q0_code q0_way k0_made res H locs 7 ls [] := by
  obtain ⟨hx, hb, hml, hown, hts, hr, hlocks, hA, hG⟩ := id C
  induction n with
  | zero => intro k0_code k0_way x1 x2 H locs ls hf hP hD hS hl; cases hf
  | succ n ih =>
    intro k0_code k0_way x1 x2 H locs ls hf hP hD hS hl
    simp only [fX4_climb_L7] at hf
    refine lv_iload_n hx hb dX4_climb_7 rfl (lv_at hl 2 rfl) ?_
    refine lv_if_le (tgt := 43) hx hb dX4_climb_8 (by decide) (fun hc => ?_) (fun hc => ?_)
    · have hf := if_t hc hf
      refine lv_iload_n hx hb dX4_climb_43 rfl (lv_at hl 1 rfl) ?_
      cases hf
      exact rt_i C hP hD hS dX4_climb_44
    · have hf := if_f hc hf
      refine lv_iload_n hx hb dX4_climb_11 rfl (lv_at hl 1 rfl) ?_
      refine lv_aload_n hx hb dX4_climb_12 rfl (lv_at hl 0 rfl) ?_
      refine va_get (D := G.1) (ci := 4) (v := .ref q0_way) (C := RX4) (T := TX4) (N := 4) hx hb hts nX4_climb_X4 hown hG.1 hP 0 rfl rfl 2 (by decide) (hts _ mX4_climb_0) (fun _ h9 => h9) rfl dX4_climb_13 ?_
      refine va_alen (v := (6 : Int32)) hx hb hG.1 hP 2 0 rfl rfl rfl dX4_climb_16 ?_
      refine lv_icmp_ge (tgt := 43) hx hb dX4_climb_17 (by decide) (fun hc => ?_) (fun hc => ?_)
      · have hf := if_t hc hf
        refine lv_iload_n hx hb dX4_climb_43 rfl (lv_at hl 1 rfl) ?_
        cases hf
        exact rt_i C hP hD hS dX4_climb_44
      · have hf := if_f hc hf
        refine lv_aload_n hx hb dX4_climb_20 rfl (lv_at hl 0 rfl) ?_
        refine va_get (D := G.1) (ci := 4) (v := .ref q0_way) (C := RX4) (T := TX4) (N := 4) hx hb hts nX4_climb_X4 hown hG.1 hP 0 rfl rfl 2 (by decide) (hts _ mX4_climb_0) (fun _ h9 => h9) rfl dX4_climb_21 ?_
        refine lv_iload_n hx hb dX4_climb_24 rfl (lv_at hl 1 rfl) ?_
        refine lv_iload_n hx hb dX4_climb_25 rfl (lv_at hl 2 rfl) ?_
        obtain ⟨hin, hf⟩ := pI_use hf
        refine va_iast hx hb hG.1 hP hD hS 2 0 rfl rfl hin dX4_climb_26 (fun H locs hP hD hS => ?_)
        have hP : va_P G.1 vwCl (wdX4_climb G q0 q0_grid q0_code q0_way k0_code (upd k0_way (x1).toNatClampNeg x2) k0_made) H := hP
        have hD : va_D A (wdX4_climb G q0 q0_grid q0_code q0_way k0_code (upd k0_way (x1).toNatClampNeg x2) k0_made) := hD
        obtain ⟨y2, ey2⟩ : ∃ z : Int32, z = x1 + (1 : Int32) := ⟨_, rfl⟩
        have hf := nm_use ey2 hf
        refine lv_iinc (v := y2) (lv' := [(1, .int y2), (0, .ref q0), (2, .int x2)]) hx hb dX4_climb_27 hl (k := 1) rfl (by rw [ey2]; rfl) (by decide) rfl (fun ls hl => ?_)
        refine lv_aload_n hx hb dX4_climb_30 rfl (lv_at hl 1 rfl) ?_
        refine lv_iload_n hx hb dX4_climb_31 rfl (lv_at hl 2 rfl) ?_
        obtain ⟨r3, hr3, hf⟩ := bd_use hf
        refine cl_V (wn := (wdX4_climb G q0 q0_grid q0_code q0_way r3 (upd k0_way (x1).toNatClampNeg x2) k0_made)) (st1 := []) C hP hD hS (tX4_exchangeAt l G q0 q0_grid q0_code q0_way k0_code k0_made x2 r3 hr3) (cwV 1 hts gX4_climb_X4_exchangeAt rfl rfl rfl (by decide +kernel) ⟨Nat.le_of_ble_eq_true rfl, Nat.le_of_ble_eq_true rfl⟩) [0, 1] [2] [1, 2, 0] rfl rfl rfl rfl (by decide) rfl rfl (ci := 4) (q0 := 0) rfl rfl rfl rfl hl.1 rfl rfl (Nat.le_of_ble_eq_true rfl) dX4_climb_32 (fun H locs hP hD hS => ?_)
        refine lv_aload_n hx hb dX4_climb_35 rfl (lv_at hl 1 rfl) ?_
        obtain ⟨r4, hr4, hf⟩ := bd_use hf
        refine cl_V (wn := (wdX4_climb G q0 q0_grid q0_code q0_way r3 (upd k0_way (x1).toNatClampNeg x2) k0_made)) (st1 := [.int r4]) C hP hD hS (tX4_firstRise l G q0 q0_grid q0_code q0_way r3 k0_made r4 hr4) (cwV 0 hts gX4_climb_X4_firstRise rfl rfl rfl (by decide +kernel) ⟨Nat.le_of_ble_eq_true rfl, Nat.le_of_ble_eq_true rfl⟩) [0, 1] [2] [1, 2, 0] rfl rfl rfl rfl (by decide) rfl rfl (ci := 4) (q0 := 0) rfl rfl rfl rfl hl.1 rfl rfl (Nat.le_of_ble_eq_true rfl) dX4_climb_36 (fun H locs hP hD hS => ?_)
        refine lv_istore_n (lv' := [(2, .int r4), (1, .int y2), (0, .ref q0)]) hx hb dX4_climb_39 rfl hl (by decide) rfl (fun ls hl => ?_)
        refine lv_goto (tgt := 7) hx hb dX4_climb_40 (by decide) ?_
        exact ih r3 (upd k0_way (x1).toNatClampNeg x2) y2 r4 _ _ ls hf hP hD hS (lv_sub hl [2, 1, 0] rfl)
set_option maxHeartbeats 4000000 in
set_option maxRecDepth 100000 in
theorem tX4_climb (l : Launch) (G : GX) (q0 : Nat) (q0_grid : Nat) (q0_code : Nat) (q0_way : Nat) (k0_code : Nat → Int32) (k0_way : Nat → Int32) (k0_made : Int32) (res : Int32 × (Nat → Int32) × (Nat → Int32)) (hf : fX4_climb k0_code k0_way = some res) : Ct l yX4_climb wsX4_climb rmX4_climb G [.ref q0] (wdX4_climb G q0 q0_grid q0_code q0_way k0_code k0_way k0_made) (wdX4_climb G q0 q0_grid q0_code q0_way res.2.1 res.2.2 k0_made) (some (.int res.1)) := by
  refine Ct.of (cc := cX4_climb) (nL := 3) (ret := (some .int)) (by decide) rfl (Nat.le_of_ble_eq_true rfl) rfl ?_
  intro p e s m below meth c A ls C hP hD hl
  obtain ⟨hx, hb, hml, hown, hts, hr, hlocks, hA, hG⟩ := id C
  have hS : va_S A s.heap s.heap [] := va_S.rf
  unfold fX4_climb at hf
  refine lv_iconst (v := (0 : Int32)) hx hb dX4_climb_0 (by decide) ?_
  refine lv_istore_n (lv' := [(1, .int (0 : Int32)), (0, .ref q0)]) hx hb dX4_climb_1 rfl hl (by decide) rfl (fun ls hl => ?_)
  refine lv_aload_n hx hb dX4_climb_2 rfl (lv_at hl 1 rfl) ?_
  obtain ⟨r5, hr5, hf⟩ := bd_use hf
  refine cl_V (wn := (wdX4_climb G q0 q0_grid q0_code q0_way k0_code k0_way k0_made)) (st1 := [.int r5]) C hP hD hS (tX4_firstRise l G q0 q0_grid q0_code q0_way k0_code k0_made r5 hr5) (cwV 0 hts gX4_climb_X4_firstRise rfl rfl rfl (by decide +kernel) ⟨Nat.le_of_ble_eq_true rfl, Nat.le_of_ble_eq_true rfl⟩) [0, 1] [2] [1, 2, 0] rfl rfl rfl rfl (by decide) rfl rfl (ci := 4) (q0 := 0) rfl rfl rfl rfl hl.1 rfl rfl (Nat.le_of_ble_eq_true rfl) dX4_climb_3 (fun H locs hP hD hS => ?_)
  refine lv_istore_n (lv' := [(2, .int r5), (1, .int (0 : Int32)), (0, .ref q0)]) hx hb dX4_climb_6 rfl hl (by decide) rfl (fun ls hl => ?_)
  exact wX4_climb_7 C q0 q0_grid q0_code q0_way k0_made res fu k0_code k0_way (0 : Int32) r5 _ _ ls hf hP hD hS (lv_sub hl [2, 1, 0] rfl)
abbrev wdX4_make (G : GX) (q0 : Nat) (q0_grid : Nat) (q0_grid_cell : Nat) (q0_grid_top : Nat) (q0_code : Nat) (q0_way : Nat) (k0_grid_cell : Nat → Int64) (k0_grid_top : Nat → Int32) (k0_code : Nat → Int32) (k0_way : Nat → Int32) (k0_made : Int32) : va_W := [(q0, .inr (4, [.ref q0_grid, .ref q0_code, .ref q0_way, .int k0_made])), (q0_grid, .inr (2, [.ref q0_grid_cell, .ref q0_grid_top])), (q0_grid_cell, .inl (G.2.2.1, 3024, .inr (.inl k0_grid_cell))), (q0_grid_top, .inl (G.2.1, 5, .inl k0_grid_top)), (q0_code, .inl (G.2.1, 5, .inl k0_code)), (q0_way, .inl (G.2.1, 6, .inl k0_way))]
abbrev rmX4_make : Room := { frames := 4, cells := 0, slots := 0, locals := 139 }
abbrev glX4_make (p : Program) (l : Launch) (e : Env) (s : State) (m : MethodId) (args : Array Value) (below : List Frame) (meth : Method) (c : Code) (G : GX) (A : Nat → Prop) (q0 : Nat) (q0_grid : Nat) (q0_grid_cell : Nat) (q0_grid_top : Nat) (q0_code : Nat) (q0_way : Nat) (res : (Nat → Int64) × (Nat → Int32) × (Nat → Int32) × (Nat → Int32) × Int32) (H : Heap) (locs : List Loc) (pc : Nat) (ls : Array Slot) (st : List Value) : Prop := W p l e rmX4_make s m args below meth c H locs 0 0 (MQ below (ctQ G A (wdX4_make G q0 q0_grid q0_grid_cell q0_grid_top q0_code q0_way res.1 res.2.1 res.2.2.1 res.2.2.2.1 res.2.2.2.2) none) args s 0 0 A) (F0 m pc ls st)
set_option maxRecDepth 20000 in
theorem mX4_make_0 : Cond.fieldLink RX4 22 "SchubertDesk$Single" "way" "[I" ∈ wsX4_make := by decide +kernel
set_option maxRecDepth 20000 in
theorem mX4_make_1 : Cond.fieldLink RX4 12 "SchubertDesk$Single" "grid" "LSchubertDesk$Grid;" ∈ wsX4_make := by decide +kernel
set_option maxRecDepth 20000 in
theorem mX4_make_2 : Cond.fieldLink RX4 18 "SchubertDesk$Single" "code" "[I" ∈ wsX4_make := by decide +kernel
set_option maxRecDepth 20000 in
theorem mX4_make_3 : Cond.initialized RX5 ∈ wsX4_make := by decide +kernel
set_option maxRecDepth 20000 in
theorem mX4_make_4 : Cond.static yX5_cellOf ∈ wsX4_make := by decide +kernel
set_option maxRecDepth 20000 in
theorem mX4_make_5 : Cond.static yX5_exponentAt ∈ wsX4_make := by decide +kernel
set_option maxRecDepth 20000 in
theorem mX4_make_6 : Cond.fieldLink RX4 25 "SchubertDesk$Single" "made" "I" ∈ wsX4_make := by decide +kernel
set_option maxRecDepth 20000 in
theorem nX4_make_X4 : ∀ w ∈ u_ws RX4 TX4 4, w ∈ wsX4_make := by decide +kernel
set_option maxHeartbeats 4000000 in
set_option maxRecDepth 100000 in
theorem wX4_make_110 {p : Program} {l : Launch} {e : Env} {s : State} {m : MethodId} {args : Array Value} {below : List Frame} {meth : Method} {c : Code} {G : GX} {A : Nat → Prop} (C : Cx p s m args meth c cX4_make 5 none wsX4_make RX4 G A) (q0 : Nat) (q0_grid : Nat) (q0_grid_cell : Nat) (q0_grid_top : Nat) (q0_code : Nat) (q0_way : Nat) (p1 : Int32) (res : (Nat → Int64) × (Nat → Int32) × (Nat → Int32) × (Nat → Int32) × Int32) (n : Nat) : ∀ (k0_grid_cell : Nat → Int64) (k0_grid_top : Nat → Int32) (k0_code : Nat → Int32) (k0_way : Nat → Int32) (k0_made : Int32) (x3 : Int32) (x4 : Int32) (H : Heap) (locs : List Loc) (ls : Array Slot), fX4_make_L110 p1 n k0_grid_cell k0_grid_top k0_code k0_way k0_made x3 x4 = some res → va_P G.1 vwCl (wdX4_make G q0 q0_grid q0_grid_cell q0_grid_top q0_code q0_way k0_grid_cell k0_grid_top k0_code k0_way k0_made) H → va_D A (wdX4_make G q0 q0_grid q0_grid_cell q0_grid_top q0_code q0_way k0_grid_cell k0_grid_top k0_code k0_way k0_made) → va_S A s.heap H locs → lv_has ls 5 [(0, .ref q0), (3, .int x3), (4, .int x4)] → glX4_make p l e s m args below meth c G A q0 q0_grid q0_grid_cell q0_grid_top q0_code q0_way res H locs 110 ls [] := by
  obtain ⟨hx, hb, hml, hown, hts, hr, hlocks, hA, hG⟩ := id C
  induction n with
  | zero => intro k0_grid_cell k0_grid_top k0_code k0_way k0_made x3 x4 H locs ls hf hP hD hS hl; cases hf
  | succ n ih =>
    intro k0_grid_cell k0_grid_top k0_code k0_way k0_made x3 x4 H locs ls hf hP hD hS hl
    simp only [fX4_make_L110] at hf
    refine lv_iload hx hb dX4_make_110 (lv_at hl 2 rfl) ?_
    refine lv_if_lt (tgt := 150) hx hb dX4_make_112 (by decide) (fun hc => ?_) (fun hc => ?_)
    · have hf := if_t hc hf
      cases hf
      exact rt_v C hP hD hS dX4_make_150
    · have hf := if_f hc hf
      refine lv_iload hx hb dX4_make_115 (lv_at hl 2 rfl) ?_
      refine lv_aload_n hx hb dX4_make_117 rfl (lv_at hl 0 rfl) ?_
      refine va_get (D := G.1) (ci := 4) (v := .ref q0_way) (C := RX4) (T := TX4) (N := 4) hx hb hts nX4_make_X4 hown hG.1 hP 0 rfl rfl 2 (by decide) (hts _ mX4_make_0) (fun _ h9 => h9) rfl dX4_make_118 ?_
      refine va_alen (v := (6 : Int32)) hx hb hG.1 hP 5 0 rfl rfl rfl dX4_make_121 ?_
      refine lv_icmp_ge (tgt := 150) hx hb dX4_make_122 (by decide) (fun hc => ?_) (fun hc => ?_)
      · have hf := if_t hc hf
        cases hf
        exact rt_v C hP hD hS dX4_make_150
      · have hf := if_f hc hf
        refine lv_aload_n hx hb dX4_make_125 rfl (lv_at hl 0 rfl) ?_
        refine va_get (D := G.1) (ci := 4) (v := .ref q0_grid) (C := RX4) (T := TX4) (N := 4) hx hb hts nX4_make_X4 hown hG.1 hP 0 rfl rfl 0 (by decide) (hts _ mX4_make_1) (fun _ h9 => h9) rfl dX4_make_126 ?_
        refine lv_aload_n hx hb dX4_make_129 rfl (lv_at hl 0 rfl) ?_
        refine va_get (D := G.1) (ci := 4) (v := .ref q0_way) (C := RX4) (T := TX4) (N := 4) hx hb hts nX4_make_X4 hown hG.1 hP 0 rfl rfl 2 (by decide) (hts _ mX4_make_0) (fun _ h9 => h9) rfl dX4_make_130 ?_
        refine lv_iload hx hb dX4_make_133 (lv_at hl 2 rfl) ?_
        obtain ⟨hin, hf⟩ := gI_use hf
        refine va_iald hx hb hG.1 hP 5 0 rfl rfl hin dX4_make_135 ?_
        refine lv_iload_n hx hb dX4_make_136 rfl (lv_at hl 1 rfl) ?_
        refine lv_iload_n hx hb dX4_make_137 rfl (lv_at hl 1 rfl) ?_
        obtain ⟨r2, hr2, hf⟩ := bd_use hf
        refine cl_V (wn := (wdX4_make G q0 q0_grid q0_grid_cell q0_grid_top q0_code q0_way r2.1 r2.2 k0_code k0_way k0_made)) (st1 := []) C hP hD hS (tX2_differ l G q0_grid q0_grid_cell q0_grid_top k0_grid_cell k0_grid_top (k0_way (x4).toNatClampNeg) x3 x3 r2 hr2) (cwV 3 hts gX4_make_X2_differ rfl rfl rfl (by decide +kernel) ⟨Nat.le_of_ble_eq_true rfl, Nat.le_of_ble_eq_true rfl⟩) [1, 2, 3] [0, 4, 5] [0, 3, 4, 5, 1, 2] rfl rfl rfl rfl (by decide) rfl rfl (ci := 2) (q0 := 1) rfl rfl rfl rfl hl.1 rfl rfl (Nat.le_of_ble_eq_true rfl) dX4_make_138 (fun H locs hP hD hS => ?_)
        obtain ⟨y3, ey3⟩ : ∃ z : Int32, z = x3 + (-1 : Int32) := ⟨_, rfl⟩
        have hf := nm_use ey3 hf
        refine lv_iinc (v := y3) (lv' := [(3, .int y3), (0, .ref q0), (4, .int x4)]) hx hb dX4_make_141 hl (k := 1) rfl (by rw [ey3]; rfl) (by decide) rfl (fun ls hl => ?_)
        obtain ⟨y4, ey4⟩ : ∃ z : Int32, z = x4 + (-1 : Int32) := ⟨_, rfl⟩
        have hf := nm_use ey4 hf
        refine lv_iinc (v := y4) (lv' := [(4, .int y4), (3, .int y3), (0, .ref q0)]) hx hb dX4_make_144 hl (k := 2) rfl (by rw [ey4]; rfl) (by decide) rfl (fun ls hl => ?_)
        refine lv_goto (tgt := 110) hx hb dX4_make_147 (by decide) ?_
        exact ih r2.1 r2.2 k0_code k0_way k0_made y3 y4 _ _ ls hf hP hD hS (lv_sub hl [2, 1, 0] rfl)
set_option maxHeartbeats 4000000 in
set_option maxRecDepth 100000 in
theorem wX4_make_16 {p : Program} {l : Launch} {e : Env} {s : State} {m : MethodId} {args : Array Value} {below : List Frame} {meth : Method} {c : Code} {G : GX} {A : Nat → Prop} (C : Cx p s m args meth c cX4_make 5 none wsX4_make RX4 G A) (q0 : Nat) (q0_grid : Nat) (q0_grid_cell : Nat) (q0_grid_top : Nat) (q0_code : Nat) (q0_way : Nat) (p1 : Int32) (res : (Nat → Int64) × (Nat → Int32) × (Nat → Int32) × (Nat → Int32) × Int32) (n : Nat) : ∀ (k0_grid_cell : Nat → Int64) (k0_grid_top : Nat → Int32) (k0_code : Nat → Int32) (k0_way : Nat → Int32) (k0_made : Int32) (x2 : Int32) (H : Heap) (locs : List Loc) (ls : Array Slot), fX4_make_L16 p1 n k0_grid_cell k0_grid_top k0_code k0_way k0_made x2 = some res → va_P G.1 vwCl (wdX4_make G q0 q0_grid q0_grid_cell q0_grid_top q0_code q0_way k0_grid_cell k0_grid_top k0_code k0_way k0_made) H → va_D A (wdX4_make G q0 q0_grid q0_grid_cell q0_grid_top q0_code q0_way k0_grid_cell k0_grid_top k0_code k0_way k0_made) → va_S A s.heap H locs → lv_has ls 5 [(0, .ref q0), (1, .int p1), (2, .int x2)] → glX4_make p l e s m args below meth c G A q0 q0_grid q0_grid_cell q0_grid_top q0_code q0_way res H locs 16 ls [] := by
  obtain ⟨hx, hb, hml, hown, hts, hr, hlocks, hA, hG⟩ := id C
  induction n with
  | zero => intro k0_grid_cell k0_grid_top k0_code k0_way k0_made x2 H locs ls hf hP hD hS hl; cases hf
  | succ n ih =>
    intro k0_grid_cell k0_grid_top k0_code k0_way k0_made x2 H locs ls hf hP hD hS hl
    simp only [fX4_make_L16] at hf
    refine lv_iload_n hx hb dX4_make_16 rfl (lv_at hl 2 rfl) ?_
    refine lv_iconst (v := (4 : Int32)) hx hb dX4_make_17 (by decide) ?_
    refine lv_icmp_gt (tgt := 38) hx hb dX4_make_18 (by decide) (fun hc => ?_) (fun hc => ?_)
    · have hf := if_t hc hf
      refine lv_aload_n hx hb dX4_make_38 rfl (lv_at hl 0 rfl) ?_
      obtain ⟨r5, hr5, hf⟩ := bd_use hf
      refine cl_V (wn := (wdX4_make G q0 q0_grid q0_grid_cell q0_grid_top q0_code q0_way k0_grid_cell k0_grid_top r5.2.1 r5.2.2 k0_made)) (st1 := [.int r5.1]) C hP hD hS (tX4_climb l G q0 q0_grid q0_code q0_way k0_code k0_way k0_made r5 hr5) (cwV 0 hts gX4_make_X4_climb rfl rfl rfl (by decide +kernel) ⟨Nat.le_of_ble_eq_true rfl, Nat.le_of_ble_eq_true rfl⟩) [0, 4, 5] [1, 2, 3] [3, 0, 1, 2, 4, 5] rfl rfl rfl rfl (by decide) rfl rfl (ci := 4) (q0 := 0) rfl rfl rfl rfl hl.1 rfl rfl (Nat.le_of_ble_eq_true rfl) dX4_make_39 (fun H locs hP hD hS => ?_)
      refine lv_istore_n (lv' := [(2, .int r5.1), (0, .ref q0), (1, .int p1)]) hx hb dX4_make_42 rfl hl (by decide) rfl (fun ls hl => ?_)
      refine lv_aload_n hx hb dX4_make_43 rfl (lv_at hl 1 rfl) ?_
      refine va_get (D := G.1) (ci := 4) (v := .ref q0_grid) (C := RX4) (T := TX4) (N := 4) hx hb hts nX4_make_X4 hown hG.1 hP 0 rfl rfl 0 (by decide) (hts _ mX4_make_1) (fun _ h9 => h9) rfl dX4_make_44 ?_
      refine lv_aload_n hx hb dX4_make_47 rfl (lv_at hl 1 rfl) ?_
      refine va_get (D := G.1) (ci := 4) (v := .ref q0_code) (C := RX4) (T := TX4) (N := 4) hx hb hts nX4_make_X4 hown hG.1 hP 0 rfl rfl 1 (by decide) (hts _ mX4_make_2) (fun _ h9 => h9) rfl dX4_make_48 ?_
      refine lv_iconst (v := (1 : Int32)) hx hb dX4_make_51 (by decide) ?_
      obtain ⟨hin, hf⟩ := gI_use hf
      refine va_iald hx hb hG.1 hP 4 0 rfl rfl hin dX4_make_52 ?_
      refine lv_aload_n hx hb dX4_make_53 rfl (lv_at hl 1 rfl) ?_
      refine va_get (D := G.1) (ci := 4) (v := .ref q0_code) (C := RX4) (T := TX4) (N := 4) hx hb hts nX4_make_X4 hown hG.1 hP 0 rfl rfl 1 (by decide) (hts _ mX4_make_2) (fun _ h9 => h9) rfl dX4_make_54 ?_
      refine lv_iconst (v := (2 : Int32)) hx hb dX4_make_57 (by decide) ?_
      obtain ⟨hin, hf⟩ := gI_use hf
      refine va_iald hx hb hG.1 hP 4 0 rfl rfl hin dX4_make_58 ?_
      refine lv_aload_n hx hb dX4_make_59 rfl (lv_at hl 1 rfl) ?_
      refine va_get (D := G.1) (ci := 4) (v := .ref q0_code) (C := RX4) (T := TX4) (N := 4) hx hb hts nX4_make_X4 hown hG.1 hP 0 rfl rfl 1 (by decide) (hts _ mX4_make_2) (fun _ h9 => h9) rfl dX4_make_60 ?_
      refine lv_iconst (v := (3 : Int32)) hx hb dX4_make_63 (by decide) ?_
      obtain ⟨hin, hf⟩ := gI_use hf
      refine va_iald hx hb hG.1 hP 4 0 rfl rfl hin dX4_make_64 ?_
      refine lv_aload_n hx hb dX4_make_65 rfl (lv_at hl 1 rfl) ?_
      refine va_get (D := G.1) (ci := 4) (v := .ref q0_code) (C := RX4) (T := TX4) (N := 4) hx hb hts nX4_make_X4 hown hG.1 hP 0 rfl rfl 1 (by decide) (hts _ mX4_make_2) (fun _ h9 => h9) rfl dX4_make_66 ?_
      refine lv_iconst (v := (4 : Int32)) hx hb dX4_make_69 (by decide) ?_
      obtain ⟨hin, hf⟩ := gI_use hf
      refine va_iald hx hb hG.1 hP 4 0 rfl rfl hin dX4_make_70 ?_
      obtain ⟨r10, hr10, hf⟩ := bd_use hf
      refine cl_SN (host := RX5) (wn := (wdX4_make G q0 q0_grid q0_grid_cell q0_grid_top q0_code q0_way k0_grid_cell k0_grid_top r5.2.1 r5.2.2 k0_made)) (st1 := [.int r10, .ref q0_grid]) C hP hD hS (tX5_cellOf l G (r5.2.1 ((1 : Int32)).toNatClampNeg) (r5.2.1 ((2 : Int32)).toNatClampNeg) (r5.2.1 ((3 : Int32)).toNatClampNeg) (r5.2.1 ((4 : Int32)).toNatClampNeg) r10 hr10) ⟨va_cnB 4 hts gX4_make_X5_cellOf_n37 rfl rfl rfl (hG.2.1 (.methodLinkNest RX4 37 yX5_cellOf RX5) (by decide +kernel)) (hts _ mX4_make_3) (by decide +kernel) ⟨Nat.le_of_ble_eq_true rfl, Nat.le_of_ble_eq_true rfl⟩, (hts _ mX4_make_4), trivial⟩ [] [0, 1, 2, 3, 4, 5] [0, 1, 2, 3, 4, 5] rfl rfl rfl rfl (by decide) rfl rfl rfl hl.1 rfl rfl (Nat.le_of_ble_eq_true rfl) dX4_make_71 (fun H locs hP hD hS => ?_)
      obtain ⟨r11, hr11, hf⟩ := bd_use hf
      refine cl_V (wn := (wdX4_make G q0 q0_grid q0_grid_cell q0_grid_top q0_code q0_way r11.1 r11.2 r5.2.1 r5.2.2 k0_made)) (st1 := []) C hP hD hS (tX2_becomeMonomial l G q0_grid q0_grid_cell q0_grid_top k0_grid_cell k0_grid_top r10 r11 hr11) (cwV 1 hts gX4_make_X2_becomeMonomial rfl rfl rfl (by decide +kernel) ⟨Nat.le_of_ble_eq_true rfl, Nat.le_of_ble_eq_true rfl⟩) [1, 2, 3] [0, 4, 5] [0, 3, 4, 5, 1, 2] rfl rfl rfl rfl (by decide) rfl rfl (ci := 2) (q0 := 1) rfl rfl rfl rfl hl.1 rfl rfl (Nat.le_of_ble_eq_true rfl) dX4_make_74 (fun H locs hP hD hS => ?_)
      refine lv_aload_n hx hb dX4_make_77 rfl (lv_at hl 1 rfl) ?_
      refine va_get (D := G.1) (ci := 4) (v := .ref q0_code) (C := RX4) (T := TX4) (N := 4) hx hb hts nX4_make_X4 hown hG.1 hP 0 rfl rfl 1 (by decide) (hts _ mX4_make_2) (fun _ h9 => h9) rfl dX4_make_78 ?_
      refine lv_iconst (v := (1 : Int32)) hx hb dX4_make_81 (by decide) ?_
      obtain ⟨hin, hf⟩ := gI_use hf
      refine va_iald hx hb hG.1 hP 4 0 rfl rfl hin dX4_make_82 ?_
      refine lv_aload_n hx hb dX4_make_83 rfl (lv_at hl 1 rfl) ?_
      refine va_get (D := G.1) (ci := 4) (v := .ref q0_code) (C := RX4) (T := TX4) (N := 4) hx hb hts nX4_make_X4 hown hG.1 hP 0 rfl rfl 1 (by decide) (hts _ mX4_make_2) (fun _ h9 => h9) rfl dX4_make_84 ?_
      refine lv_iconst (v := (2 : Int32)) hx hb dX4_make_87 (by decide) ?_
      obtain ⟨hin, hf⟩ := gI_use hf
      refine va_iald hx hb hG.1 hP 4 0 rfl rfl hin dX4_make_88 ?_
      refine lv_iadd hx hb dX4_make_89 ?_
      refine lv_aload_n hx hb dX4_make_90 rfl (lv_at hl 1 rfl) ?_
      refine va_get (D := G.1) (ci := 4) (v := .ref q0_code) (C := RX4) (T := TX4) (N := 4) hx hb hts nX4_make_X4 hown hG.1 hP 0 rfl rfl 1 (by decide) (hts _ mX4_make_2) (fun _ h9 => h9) rfl dX4_make_91 ?_
      refine lv_iconst (v := (3 : Int32)) hx hb dX4_make_94 (by decide) ?_
      obtain ⟨hin, hf⟩ := gI_use hf
      refine va_iald hx hb hG.1 hP 4 0 rfl rfl hin dX4_make_95 ?_
      refine lv_iadd hx hb dX4_make_96 ?_
      refine lv_aload_n hx hb dX4_make_97 rfl (lv_at hl 1 rfl) ?_
      refine va_get (D := G.1) (ci := 4) (v := .ref q0_code) (C := RX4) (T := TX4) (N := 4) hx hb hts nX4_make_X4 hown hG.1 hP 0 rfl rfl 1 (by decide) (hts _ mX4_make_2) (fun _ h9 => h9) rfl dX4_make_98 ?_
      refine lv_iconst (v := (4 : Int32)) hx hb dX4_make_101 (by decide) ?_
      obtain ⟨hin, hf⟩ := gI_use hf
      refine va_iald hx hb hG.1 hP 4 0 rfl rfl hin dX4_make_102 ?_
      refine lv_iadd hx hb dX4_make_103 ?_
      refine lv_topi (fun y16 ey16 => ?_)
      have hf := nm_use ey16 hf
      refine lv_istore_n (lv' := [(3, .int y16), (2, .int r5.1), (0, .ref q0), (1, .int p1)]) hx hb dX4_make_104 rfl hl (by decide) rfl (fun ls hl => ?_)
      refine lv_iload_n hx hb dX4_make_105 rfl (lv_at hl 1 rfl) ?_
      refine lv_iconst (v := (1 : Int32)) hx hb dX4_make_106 (by decide) ?_
      refine lv_isub hx hb dX4_make_107 ?_
      refine lv_topi (fun y17 ey17 => ?_)
      have hf := nm_use ey17 hf
      refine lv_istore (lv' := [(4, .int y17), (3, .int y16), (2, .int r5.1), (0, .ref q0), (1, .int p1)]) hx hb dX4_make_108 hl (by decide) rfl (fun ls hl => ?_)
      exact wX4_make_110 C q0 q0_grid q0_grid_cell q0_grid_top q0_code q0_way p1 res fu r11.1 r11.2 r5.2.1 r5.2.2 k0_made y16 y17 _ _ ls hf hP hD hS (lv_sub hl [3, 1, 0] rfl)
    · have hf := if_f hc hf
      refine lv_aload_n hx hb dX4_make_21 rfl (lv_at hl 0 rfl) ?_
      refine va_get (D := G.1) (ci := 4) (v := .ref q0_code) (C := RX4) (T := TX4) (N := 4) hx hb hts nX4_make_X4 hown hG.1 hP 0 rfl rfl 1 (by decide) (hts _ mX4_make_2) (fun _ h9 => h9) rfl dX4_make_22 ?_
      refine lv_iload_n hx hb dX4_make_25 rfl (lv_at hl 2 rfl) ?_
      refine lv_iload_n hx hb dX4_make_26 rfl (lv_at hl 1 rfl) ?_
      refine lv_iload_n hx hb dX4_make_27 rfl (lv_at hl 2 rfl) ?_
      obtain ⟨r18, hr18, hf⟩ := bd_use hf
      refine cl_SN (host := RX5) (wn := (wdX4_make G q0 q0_grid q0_grid_cell q0_grid_top q0_code q0_way k0_grid_cell k0_grid_top k0_code k0_way k0_made)) (st1 := [.int r18, .int x2, .ref q0_code]) C hP hD hS (tX5_exponentAt l G p1 x2 r18 hr18) ⟨va_cnB 2 hts gX4_make_X5_exponentAt_n29 rfl rfl rfl (hG.2.1 (.methodLinkNest RX4 29 yX5_exponentAt RX5) (by decide +kernel)) (hts _ mX4_make_3) (by decide +kernel) ⟨Nat.le_of_ble_eq_true rfl, Nat.le_of_ble_eq_true rfl⟩, (hts _ mX4_make_5), trivial⟩ [] [0, 1, 2, 3, 4, 5] [0, 1, 2, 3, 4, 5] rfl rfl rfl rfl (by decide) rfl rfl rfl hl.1 rfl rfl (Nat.le_of_ble_eq_true rfl) dX4_make_28 (fun H locs hP hD hS => ?_)
      obtain ⟨hin, hf⟩ := pI_use hf
      refine va_iast hx hb hG.1 hP hD hS 4 0 rfl rfl hin dX4_make_31 (fun H locs hP hD hS => ?_)
      have hP : va_P G.1 vwCl (wdX4_make G q0 q0_grid q0_grid_cell q0_grid_top q0_code q0_way k0_grid_cell k0_grid_top (upd k0_code (x2).toNatClampNeg r18) k0_way k0_made) H := hP
      have hD : va_D A (wdX4_make G q0 q0_grid q0_grid_cell q0_grid_top q0_code q0_way k0_grid_cell k0_grid_top (upd k0_code (x2).toNatClampNeg r18) k0_way k0_made) := hD
      obtain ⟨y20, ey20⟩ : ∃ z : Int32, z = x2 + (1 : Int32) := ⟨_, rfl⟩
      have hf := nm_use ey20 hf
      refine lv_iinc (v := y20) (lv' := [(2, .int y20), (0, .ref q0), (1, .int p1)]) hx hb dX4_make_32 hl (k := 2) rfl (by rw [ey20]; rfl) (by decide) rfl (fun ls hl => ?_)
      refine lv_goto (tgt := 16) hx hb dX4_make_35 (by decide) ?_
      exact ih k0_grid_cell k0_grid_top (upd k0_code (x2).toNatClampNeg r18) k0_way k0_made y20 _ _ ls hf hP hD hS (lv_sub hl [1, 2, 0] rfl)
set_option maxHeartbeats 4000000 in
set_option maxRecDepth 100000 in
theorem tX4_make (l : Launch) (G : GX) (q0 : Nat) (q0_grid : Nat) (q0_grid_cell : Nat) (q0_grid_top : Nat) (q0_code : Nat) (q0_way : Nat) (k0_grid_cell : Nat → Int64) (k0_grid_top : Nat → Int32) (k0_code : Nat → Int32) (k0_way : Nat → Int32) (k0_made : Int32) (p1 : Int32) (res : (Nat → Int64) × (Nat → Int32) × (Nat → Int32) × (Nat → Int32) × Int32) (hf : fX4_make k0_grid_cell k0_grid_top k0_code k0_way k0_made p1 = some res) : Ct l yX4_make wsX4_make rmX4_make G [.ref q0, .int p1] (wdX4_make G q0 q0_grid q0_grid_cell q0_grid_top q0_code q0_way k0_grid_cell k0_grid_top k0_code k0_way k0_made) (wdX4_make G q0 q0_grid q0_grid_cell q0_grid_top q0_code q0_way res.1 res.2.1 res.2.2.1 res.2.2.2.1 res.2.2.2.2) none := by
  refine Ct.of (cc := cX4_make) (nL := 5) (ret := none) (by decide) rfl (Nat.le_of_ble_eq_true rfl) rfl ?_
  intro p e s m below meth c A ls C hP hD hl
  obtain ⟨hx, hb, hml, hown, hts, hr, hlocks, hA, hG⟩ := id C
  have hS : va_S A s.heap s.heap [] := va_S.rf
  unfold fX4_make at hf
  refine lv_iload_n hx hb dX4_make_0 rfl (lv_at hl 1 rfl) ?_
  refine lv_aload_n hx hb dX4_make_1 rfl (lv_at hl 0 rfl) ?_
  refine va_get (D := G.1) (ci := 4) (v := .int k0_made) (C := RX4) (T := TX4) (N := 4) hx hb hts nX4_make_X4 hown hG.1 hP 0 rfl rfl 3 (by decide) (hts _ mX4_make_6) (fun _ h9 => h9) rfl dX4_make_2 ?_
  refine lv_icmp_ne (tgt := 9) hx hb dX4_make_5 (by decide) (fun hc => ?_) (fun hc => ?_)
  · have hf := if_f hc hf
    refine lv_aload_n hx hb dX4_make_9 rfl (lv_at hl 0 rfl) ?_
    refine lv_iload_n hx hb dX4_make_10 rfl (lv_at hl 1 rfl) ?_
    refine va_put (D := G.1) (ci := 4) (v := .int p1) (ty := .int) (C := RX4) (T := TX4) (N := 4) hx hb hts nX4_make_X4 tyX4 tyX4_ok nmX4 hown hG.1 hP hD hS 0 rfl rfl 3 (by decide) (hts _ mX4_make_6) (fun _ h9 => h9) rfl (by decide +kernel) rfl rfl (Nat.le_of_ble_eq_true rfl) dX4_make_11 (fun H locs hP hD hS => ?_)
    have hP : va_P G.1 vwCl (wdX4_make G q0 q0_grid q0_grid_cell q0_grid_top q0_code q0_way k0_grid_cell k0_grid_top k0_code k0_way p1) H := hP
    have hD : va_D A (wdX4_make G q0 q0_grid q0_grid_cell q0_grid_top q0_code q0_way k0_grid_cell k0_grid_top k0_code k0_way p1) := hD
    refine lv_iconst (v := (1 : Int32)) hx hb dX4_make_14 (by decide) ?_
    refine lv_istore_n (lv' := [(2, .int (1 : Int32)), (0, .ref q0), (1, .int p1)]) hx hb dX4_make_15 rfl hl (by decide) rfl (fun ls hl => ?_)
    exact wX4_make_16 C q0 q0_grid q0_grid_cell q0_grid_top q0_code q0_way p1 res fu k0_grid_cell k0_grid_top k0_code k0_way p1 (1 : Int32) _ _ ls hf hP hD hS (lv_sub hl [1, 2, 0] rfl)
  · have hf := if_t hc hf
    cases hf
    exact rt_v C hP hD hS dX4_make_8
abbrev wdX3_find (G : GX) (q0 : Nat) (q0_counts : Nat) (q0_counts_cell : Nat) (q0_counts_top : Nat) (q0_numbers : Nat) (q0_numbers_items : Nat) (q1 : Nat) (q1_cell : Nat) (q1_top : Nat) (q2 : Nat) (q2_grid : Nat) (q2_grid_cell : Nat) (q2_grid_top : Nat) (q2_code : Nat) (q2_way : Nat) (q3 : Nat) (q3_row : Nat) (k0_counts_cell : Nat → Int64) (k0_numbers_items : Nat → Int32) (k0_numbers_size : Int32) (k0_known : Int32) (k1_cell : Nat → Int64) (k2_grid_cell : Nat → Int64) (k2_grid_top : Nat → Int32) (k2_code : Nat → Int32) (k2_way : Nat → Int32) (k2_made : Int32) (k3_row : Nat → Int32) : va_W := [(q0, .inr (3, [.ref q0_counts, .ref q0_numbers, .int k0_known])), (q0_counts, .inr (2, [.ref q0_counts_cell, .ref q0_counts_top])), (q0_counts_cell, .inl (G.2.2.1, 3024, .inr (.inl k0_counts_cell))), (q0_numbers, .inr (0, [.ref q0_numbers_items, .int k0_numbers_size])), (q0_numbers_items, .inl (G.2.1, 3024, .inl k0_numbers_items)), (q1, .inr (2, [.ref q1_cell, .ref q1_top])), (q1_cell, .inl (G.2.2.1, 3024, .inr (.inl k1_cell))), (q2, .inr (4, [.ref q2_grid, .ref q2_code, .ref q2_way, .int k2_made])), (q2_grid, .inr (2, [.ref q2_grid_cell, .ref q2_grid_top])), (q2_grid_cell, .inl (G.2.2.1, 3024, .inr (.inl k2_grid_cell))), (q2_grid_top, .inl (G.2.1, 5, .inl k2_grid_top)), (q2_code, .inl (G.2.1, 5, .inl k2_code)), (q2_way, .inl (G.2.1, 6, .inl k2_way)), (q3, .inr (1, [.ref q3_row])), (q3_row, .inl (G.2.1, 10, .inl k3_row))]
abbrev rmX3_find : Room := { frames := 5, cells := 0, slots := 0, locals := 163 }
abbrev glX3_find (p : Program) (l : Launch) (e : Env) (s : State) (m : MethodId) (args : Array Value) (below : List Frame) (meth : Method) (c : Code) (G : GX) (A : Nat → Prop) (q0 : Nat) (q0_counts : Nat) (q0_counts_cell : Nat) (q0_counts_top : Nat) (q0_numbers : Nat) (q0_numbers_items : Nat) (q1 : Nat) (q1_cell : Nat) (q1_top : Nat) (q2 : Nat) (q2_grid : Nat) (q2_grid_cell : Nat) (q2_grid_top : Nat) (q2_code : Nat) (q2_way : Nat) (q3 : Nat) (q3_row : Nat) (k1_cell : Nat → Int64) (res : (Nat → Int64) × (Nat → Int32) × Int32 × Int32 × (Nat → Int64) × (Nat → Int32) × (Nat → Int32) × (Nat → Int32) × Int32 × (Nat → Int32)) (H : Heap) (locs : List Loc) (pc : Nat) (ls : Array Slot) (st : List Value) : Prop := W p l e rmX3_find s m args below meth c H locs 0 0 (MQ below (ctQ G A (wdX3_find G q0 q0_counts q0_counts_cell q0_counts_top q0_numbers q0_numbers_items q1 q1_cell q1_top q2 q2_grid q2_grid_cell q2_grid_top q2_code q2_way q3 q3_row res.1 res.2.1 res.2.2.1 res.2.2.2.1 k1_cell res.2.2.2.2.1 res.2.2.2.2.2.1 res.2.2.2.2.2.2.1 res.2.2.2.2.2.2.2.1 res.2.2.2.2.2.2.2.2.1 res.2.2.2.2.2.2.2.2.2) none) args s 0 0 A) (F0 m pc ls st)
set_option maxRecDepth 20000 in
theorem mX3_find_0 : Cond.fieldLink RX3 27 "SchubertDesk$Parts" "known" "Z" ∈ wsX3_find := by decide +kernel
set_option maxRecDepth 20000 in
theorem mX3_find_1 : Cond.fieldLink RX3 12 "SchubertDesk$Parts" "counts" "LSchubertDesk$Grid;" ∈ wsX3_find := by decide +kernel
set_option maxRecDepth 20000 in
theorem mX3_find_2 : Cond.fieldLink RX3 50 "SchubertDesk$Single" "grid" "LSchubertDesk$Grid;" ∈ wsX3_find := by decide +kernel
set_option maxRecDepth 20000 in
theorem mX3_find_3 : Cond.fieldLink RX3 23 "SchubertDesk$Parts" "numbers" "LSchubertDesk$Ascending;" ∈ wsX3_find := by decide +kernel
set_option maxRecDepth 20000 in
theorem nX3_find_X3 : ∀ w ∈ u_ws RX3 TX3 3, w ∈ wsX3_find := by decide +kernel
set_option maxRecDepth 20000 in
theorem nX3_find_X4 : ∀ w ∈ u_ws RX4 TX4 4, w ∈ wsX3_find := by decide +kernel
set_option maxHeartbeats 4000000 in
set_option maxRecDepth 100000 in
theorem wX3_find_28 {p : Program} {l : Launch} {e : Env} {s : State} {m : MethodId} {args : Array Value} {below : List Frame} {meth : Method} {c : Code} {G : GX} {A : Nat → Prop} (C : Cx p s m args meth c cX3_find 7 none wsX3_find RX3 G A) (q0 : Nat) (q0_counts : Nat) (q0_counts_cell : Nat) (q0_counts_top : Nat) (q0_numbers : Nat) (q0_numbers_items : Nat) (q1 : Nat) (q1_cell : Nat) (q1_top : Nat) (q2 : Nat) (q2_grid : Nat) (q2_grid_cell : Nat) (q2_grid_top : Nat) (q2_code : Nat) (q2_way : Nat) (q3 : Nat) (q3_row : Nat) (k1_cell : Nat → Int64) (res : (Nat → Int64) × (Nat → Int32) × Int32 × Int32 × (Nat → Int64) × (Nat → Int32) × (Nat → Int32) × (Nat → Int32) × Int32 × (Nat → Int32)) (n : Nat) : ∀ (k0_counts_cell : Nat → Int64) (k0_numbers_items : Nat → Int32) (k0_numbers_size : Int32) (k0_known : Int32) (k2_grid_cell : Nat → Int64) (k2_grid_top : Nat → Int32) (k2_code : Nat → Int32) (k2_way : Nat → Int32) (k2_made : Int32) (k3_row : Nat → Int32) (x4 : Int32) (H : Heap) (locs : List Loc) (ls : Array Slot), fX3_find_L28 k1_cell n k0_counts_cell k0_numbers_items k0_numbers_size k0_known k2_grid_cell k2_grid_top k2_code k2_way k2_made k3_row x4 = some res → va_P G.1 vwCl (wdX3_find G q0 q0_counts q0_counts_cell q0_counts_top q0_numbers q0_numbers_items q1 q1_cell q1_top q2 q2_grid q2_grid_cell q2_grid_top q2_code q2_way q3 q3_row k0_counts_cell k0_numbers_items k0_numbers_size k0_known k1_cell k2_grid_cell k2_grid_top k2_code k2_way k2_made k3_row) H → va_D A (wdX3_find G q0 q0_counts q0_counts_cell q0_counts_top q0_numbers q0_numbers_items q1 q1_cell q1_top q2 q2_grid q2_grid_cell q2_grid_top q2_code q2_way q3 q3_row k0_counts_cell k0_numbers_items k0_numbers_size k0_known k1_cell k2_grid_cell k2_grid_top k2_code k2_way k2_made k3_row) → va_S A s.heap H locs → lv_has ls 7 [(0, .ref q0), (2, .ref q2), (3, .ref q3), (4, .int x4)] → glX3_find p l e s m args below meth c G A q0 q0_counts q0_counts_cell q0_counts_top q0_numbers q0_numbers_items q1 q1_cell q1_top q2 q2_grid q2_grid_cell q2_grid_top q2_code q2_way q3 q3_row k1_cell res H locs 28 ls [] := by
  obtain ⟨hx, hb, hml, hown, hts, hr, hlocks, hA, hG⟩ := id C
  induction n with
  | zero => intro k0_counts_cell k0_numbers_items k0_numbers_size k0_known k2_grid_cell k2_grid_top k2_code k2_way k2_made k3_row x4 H locs ls hf hP hD hS hl; cases hf
  | succ n ih =>
    intro k0_counts_cell k0_numbers_items k0_numbers_size k0_known k2_grid_cell k2_grid_top k2_code k2_way k2_made k3_row x4 H locs ls hf hP hD hS hl
    simp only [fX3_find_L28] at hf
    refine lv_iload hx hb dX3_find_28 (lv_at hl 3 rfl) ?_
    refine lv_if_lt (tgt := 96) hx hb dX3_find_30 (by decide) (fun hc => ?_) (fun hc => ?_)
    · have hf := if_t hc hf
      refine lv_aload_n hx hb dX3_find_96 rfl (lv_at hl 0 rfl) ?_
      refine lv_iconst (v := (1 : Int32)) hx hb dX3_find_97 (by decide) ?_
      refine va_put (D := G.1) (ci := 3) (v := .int (1 : Int32)) (ty := .boolean) (C := RX3) (T := TX3) (N := 3) hx hb hts nX3_find_X3 tyX3 tyX3_ok nmX3 hown hG.1 hP hD hS 0 rfl rfl 2 (by decide) (hts _ mX3_find_0) (fun _ h9 => h9) rfl (by decide +kernel) rfl rfl (Nat.le_of_ble_eq_true rfl) dX3_find_98 (fun H locs hP hD hS => ?_)
      have hP : va_P G.1 vwCl (wdX3_find G q0 q0_counts q0_counts_cell q0_counts_top q0_numbers q0_numbers_items q1 q1_cell q1_top q2 q2_grid q2_grid_cell q2_grid_top q2_code q2_way q3 q3_row k0_counts_cell k0_numbers_items k0_numbers_size (1 : Int32) k1_cell k2_grid_cell k2_grid_top k2_code k2_way k2_made k3_row) H := hP
      have hD : va_D A (wdX3_find G q0 q0_counts q0_counts_cell q0_counts_top q0_numbers q0_numbers_items q1 q1_cell q1_top q2 q2_grid q2_grid_cell q2_grid_top q2_code q2_way q3 q3_row k0_counts_cell k0_numbers_items k0_numbers_size (1 : Int32) k1_cell k2_grid_cell k2_grid_top k2_code k2_way k2_made k3_row) := hD
      cases hf
      exact rt_v C hP hD hS dX3_find_101
    · have hf := if_f hc hf
      refine lv_aload_n hx hb dX3_find_33 rfl (lv_at hl 0 rfl) ?_
      refine va_get (D := G.1) (ci := 3) (v := .ref q0_counts) (C := RX3) (T := TX3) (N := 3) hx hb hts nX3_find_X3 hown hG.1 hP 0 rfl rfl 0 (by decide) (hts _ mX3_find_1) (fun _ h9 => h9) rfl dX3_find_34 ?_
      refine lv_iload hx hb dX3_find_37 (lv_at hl 3 rfl) ?_
      obtain ⟨r1, hr1, hf⟩ := bd_use hf
      refine cl_V (wn := (wdX3_find G q0 q0_counts q0_counts_cell q0_counts_top q0_numbers q0_numbers_items q1 q1_cell q1_top q2 q2_grid q2_grid_cell q2_grid_top q2_code q2_way q3 q3_row k0_counts_cell k0_numbers_items k0_numbers_size k0_known k1_cell k2_grid_cell k2_grid_top k2_code k2_way k2_made k3_row)) (st1 := [.long r1]) C hP hD hS (tX2_at l G q0_counts q0_counts_cell q0_counts_top k0_counts_cell x4 r1 hr1) (cwV 1 hts gX3_find_X2_at rfl rfl rfl (by decide +kernel) ⟨Nat.le_of_ble_eq_true rfl, Nat.le_of_ble_eq_true rfl⟩) [1, 2] [0, 3, 4, 5, 6, 7, 8, 9, 10, 11, 12, 13, 14] [0, 13, 14, 1, 2, 3, 4, 5, 6, 7, 8, 9, 10, 11, 12] rfl rfl rfl rfl (by decide) rfl rfl (ci := 2) (q0 := 1) rfl rfl rfl rfl hl.1 rfl rfl (Nat.le_of_ble_eq_true rfl) dX3_find_39 (fun H locs hP hD hS => ?_)
      refine lv_lstore (lv' := [(5, .long r1), (0, .ref q0), (2, .ref q2), (3, .ref q3), (4, .int x4)]) hx hb dX3_find_42 hl (by decide) rfl (fun ls hl => ?_)
      refine lv_lload hx hb dX3_find_44 (lv_at hl 0 rfl) ?_
      refine lv_lconst (v := (0 : Int64)) hx hb dX3_find_46 (by decide) ?_
      refine W.lcmp hx hb dX3_find_47 ?_
      refine lv_if_eq (tgt := 90) hx hb dX3_find_48 (by decide) (fun hc => ?_) (fun hc => ?_)
      · have hf := if_t hc hf
        obtain ⟨y2, ey2⟩ : ∃ z : Int32, z = x4 + (-1 : Int32) := ⟨_, rfl⟩
        have hf := nm_use ey2 hf
        refine lv_iinc (v := y2) (lv' := [(4, .int y2), (5, .long r1), (0, .ref q0), (2, .ref q2), (3, .ref q3)]) hx hb dX3_find_90 hl (k := 4) rfl (by rw [ey2]; rfl) (by decide) rfl (fun ls hl => ?_)
        refine lv_goto (tgt := 28) hx hb dX3_find_93 (by decide) ?_
        exact ih k0_counts_cell k0_numbers_items k0_numbers_size k0_known k2_grid_cell k2_grid_top k2_code k2_way k2_made k3_row y2 _ _ ls hf hP hD hS (lv_sub hl [2, 3, 4, 0] rfl)
      · have hf := if_f hc hf
        refine lv_aload_n hx hb dX3_find_51 rfl (lv_at hl 2 rfl) ?_
        refine lv_iload hx hb dX3_find_52 (lv_at hl 4 rfl) ?_
        obtain ⟨r3, hr3, hf⟩ := bd_use hf
        refine cl_V (wn := (wdX3_find G q0 q0_counts q0_counts_cell q0_counts_top q0_numbers q0_numbers_items q1 q1_cell q1_top q2 q2_grid q2_grid_cell q2_grid_top q2_code q2_way q3 q3_row k0_counts_cell k0_numbers_items k0_numbers_size k0_known k1_cell r3.1 r3.2.1 r3.2.2.1 r3.2.2.2.1 r3.2.2.2.2 k3_row)) (st1 := []) C hP hD hS (tX4_make l G q2 q2_grid q2_grid_cell q2_grid_top q2_code q2_way k2_grid_cell k2_grid_top k2_code k2_way k2_made x4 r3 hr3) (cwV 1 hts gX3_find_X4_make rfl rfl rfl (by decide +kernel) ⟨Nat.le_of_ble_eq_true rfl, Nat.le_of_ble_eq_true rfl⟩) [7, 8, 9, 10, 11, 12] [0, 1, 2, 3, 4, 5, 6, 13, 14] [0, 1, 2, 3, 4, 5, 6, 9, 10, 11, 12, 13, 14, 7, 8] rfl rfl rfl rfl (by decide) rfl rfl (ci := 4) (q0 := 7) rfl rfl rfl rfl hl.1 rfl rfl (Nat.le_of_ble_eq_true rfl) dX3_find_54 (fun H locs hP hD hS => ?_)
        refine lv_aload_n hx hb dX3_find_57 rfl (lv_at hl 1 rfl) ?_
        refine va_get (D := G.1) (ci := 3) (v := .ref q0_counts) (C := RX3) (T := TX3) (N := 3) hx hb hts nX3_find_X3 hown hG.1 hP 0 rfl rfl 0 (by decide) (hts _ mX3_find_1) (fun _ h9 => h9) rfl dX3_find_58 ?_
        refine lv_lload hx hb dX3_find_61 (lv_at hl 0 rfl) ?_
        refine lv_lneg hx hb dX3_find_63 ?_
        refine lv_aload_n hx hb dX3_find_64 rfl (lv_at hl 2 rfl) ?_
        refine va_get (D := G.1) (ci := 4) (v := .ref q2_grid) (C := RX4) (T := TX4) (N := 4) hx hb hts nX3_find_X4 hown hG.1 hP 7 rfl rfl 0 (by decide) (hts _ mX3_find_2) (fun _ h9 => h9) rfl dX3_find_65 ?_
        refine lv_iload hx hb dX3_find_68 (lv_at hl 4 rfl) ?_
        obtain ⟨r4, hr4, hf⟩ := bd_use hf
        refine cl_V (wn := (wdX3_find G q0 q0_counts q0_counts_cell q0_counts_top q0_numbers q0_numbers_items q1 q1_cell q1_top q2 q2_grid q2_grid_cell q2_grid_top q2_code q2_way q3 q3_row r4 k0_numbers_items k0_numbers_size k0_known k1_cell r3.1 r3.2.1 r3.2.2.1 r3.2.2.2.1 r3.2.2.2.2 k3_row)) (st1 := []) C hP hD hS (tX2_addTimes l G q0_counts q0_counts_cell q0_counts_top q2_grid q2_grid_cell q2_grid_top k0_counts_cell r3.1 (-r1) x4 r4 hr4) (cwV 3 hts gX3_find_X2_addTimes rfl rfl rfl (by decide +kernel) ⟨Nat.le_of_ble_eq_true rfl, Nat.le_of_ble_eq_true rfl⟩) [1, 2, 8, 9] [0, 3, 4, 5, 6, 7, 10, 11, 12, 13, 14] [0, 11, 12, 1, 2, 3, 4, 5, 13, 14, 6, 7, 8, 9, 10] rfl rfl rfl rfl (by decide) rfl rfl (ci := 2) (q0 := 1) rfl rfl rfl rfl hl.1 rfl rfl (Nat.le_of_ble_eq_true rfl) dX3_find_70 (fun H locs hP hD hS => ?_)
        refine lv_aload_n hx hb dX3_find_73 rfl (lv_at hl 3 rfl) ?_
        refine lv_iload hx hb dX3_find_74 (lv_at hl 4 rfl) ?_
        obtain ⟨r5, hr5, hf⟩ := bd_use hf
        refine cl_V (wn := (wdX3_find G q0 q0_counts q0_counts_cell q0_counts_top q0_numbers q0_numbers_items q1 q1_cell q1_top q2 q2_grid q2_grid_cell q2_grid_top q2_code q2_way q3 q3_row r4 k0_numbers_items k0_numbers_size k0_known k1_cell r3.1 r3.2.1 r3.2.2.1 r3.2.2.2.1 r3.2.2.2.2 r5)) (st1 := []) C hP hD hS (tX1_becomeOfCode l G q3 q3_row k3_row x4 r5 hr5) (cwV 1 hts gX3_find_X1_becomeOfCode rfl rfl rfl (by decide +kernel) ⟨Nat.le_of_ble_eq_true rfl, Nat.le_of_ble_eq_true rfl⟩) [13, 14] [0, 1, 2, 3, 4, 5, 6, 7, 8, 9, 10, 11, 12] [0, 1, 2, 3, 4, 5, 6, 7, 8, 9, 10, 11, 12, 13, 14] rfl rfl rfl rfl (by decide) rfl rfl (ci := 1) (q0 := 13) rfl rfl rfl rfl hl.1 rfl rfl (Nat.le_of_ble_eq_true rfl) dX3_find_76 (fun H locs hP hD hS => ?_)
        refine lv_aload_n hx hb dX3_find_79 rfl (lv_at hl 1 rfl) ?_
        refine va_get (D := G.1) (ci := 3) (v := .ref q0_numbers) (C := RX3) (T := TX3) (N := 3) hx hb hts nX3_find_X3 hown hG.1 hP 0 rfl rfl 1 (by decide) (hts _ mX3_find_3) (fun _ h9 => h9) rfl dX3_find_80 ?_
        refine lv_aload_n hx hb dX3_find_83 rfl (lv_at hl 3 rfl) ?_
        obtain ⟨r6, hr6, hf⟩ := bd_use hf
        refine cl_V (wn := (wdX3_find G q0 q0_counts q0_counts_cell q0_counts_top q0_numbers q0_numbers_items q1 q1_cell q1_top q2 q2_grid q2_grid_cell q2_grid_top q2_code q2_way q3 q3_row r4 k0_numbers_items k0_numbers_size k0_known k1_cell r3.1 r3.2.1 r3.2.2.1 r3.2.2.2.1 r3.2.2.2.2 r5)) (st1 := [.int r6, .ref q0_numbers]) C hP hD hS (tX1_plainNumber l G q3 q3_row r5 r6 hr6) (cwV 0 hts gX3_find_X1_plainNumber rfl rfl rfl (by decide +kernel) ⟨Nat.le_of_ble_eq_true rfl, Nat.le_of_ble_eq_true rfl⟩) [13, 14] [0, 1, 2, 3, 4, 5, 6, 7, 8, 9, 10, 11, 12] [0, 1, 2, 3, 4, 5, 6, 7, 8, 9, 10, 11, 12, 13, 14] rfl rfl rfl rfl (by decide) rfl rfl (ci := 1) (q0 := 13) rfl rfl rfl rfl hl.1 rfl rfl (Nat.le_of_ble_eq_true rfl) dX3_find_84 (fun H locs hP hD hS => ?_)
        obtain ⟨r7, hr7, hf⟩ := bd_use hf
        refine cl_V (wn := (wdX3_find G q0 q0_counts q0_counts_cell q0_counts_top q0_numbers q0_numbers_items q1 q1_cell q1_top q2 q2_grid q2_grid_cell q2_grid_top q2_code q2_way q3 q3_row r4 r7.1 r7.2 k0_known k1_cell r3.1 r3.2.1 r3.2.2.1 r3.2.2.2.1 r3.2.2.2.2 r5)) (st1 := []) C hP hD hS (tX0_put l G 3024 q0_numbers q0_numbers_items k0_numbers_items k0_numbers_size r6 r7 hr7) (cwV 1 hts gX3_find_X0_put rfl rfl rfl (by decide +kernel) ⟨Nat.le_of_ble_eq_true rfl, Nat.le_of_ble_eq_true rfl⟩) [3, 4] [0, 1, 2, 5, 6, 7, 8, 9, 10, 11, 12, 13, 14] [0, 1, 2, 13, 14, 3, 4, 5, 6, 7, 8, 9, 10, 11, 12] rfl rfl rfl rfl (by decide) rfl rfl (ci := 0) (q0 := 3) rfl rfl rfl rfl hl.1 rfl rfl (Nat.le_of_ble_eq_true rfl) dX3_find_87 (fun H locs hP hD hS => ?_)
        obtain ⟨y8, ey8⟩ : ∃ z : Int32, z = x4 + (-1 : Int32) := ⟨_, rfl⟩
        have hf := nm_use ey8 hf
        refine lv_iinc (v := y8) (lv' := [(4, .int y8), (5, .long r1), (0, .ref q0), (2, .ref q2), (3, .ref q3)]) hx hb dX3_find_90 hl (k := 4) rfl (by rw [ey8]; rfl) (by decide) rfl (fun ls hl => ?_)
        refine lv_goto (tgt := 28) hx hb dX3_find_93 (by decide) ?_
        exact ih r4 r7.1 r7.2 k0_known r3.1 r3.2.1 r3.2.2.1 r3.2.2.2.1 r3.2.2.2.2 r5 y8 _ _ ls hf hP hD hS (lv_sub hl [2, 3, 4, 0] rfl)
set_option maxHeartbeats 4000000 in
set_option maxRecDepth 100000 in
theorem tX3_find (l : Launch) (G : GX) (q0 : Nat) (q0_counts : Nat) (q0_counts_cell : Nat) (q0_counts_top : Nat) (q0_numbers : Nat) (q0_numbers_items : Nat) (q1 : Nat) (q1_cell : Nat) (q1_top : Nat) (q2 : Nat) (q2_grid : Nat) (q2_grid_cell : Nat) (q2_grid_top : Nat) (q2_code : Nat) (q2_way : Nat) (q3 : Nat) (q3_row : Nat) (k0_counts_cell : Nat → Int64) (k0_numbers_items : Nat → Int32) (k0_numbers_size : Int32) (k0_known : Int32) (k1_cell : Nat → Int64) (k2_grid_cell : Nat → Int64) (k2_grid_top : Nat → Int32) (k2_code : Nat → Int32) (k2_way : Nat → Int32) (k2_made : Int32) (k3_row : Nat → Int32) (res : (Nat → Int64) × (Nat → Int32) × Int32 × Int32 × (Nat → Int64) × (Nat → Int32) × (Nat → Int32) × (Nat → Int32) × Int32 × (Nat → Int32)) (hf : fX3_find k0_counts_cell k0_numbers_items k0_numbers_size k0_known k1_cell k2_grid_cell k2_grid_top k2_code k2_way k2_made k3_row = some res) : Ct l yX3_find wsX3_find rmX3_find G [.ref q0, .ref q1, .ref q2, .ref q3] (wdX3_find G q0 q0_counts q0_counts_cell q0_counts_top q0_numbers q0_numbers_items q1 q1_cell q1_top q2 q2_grid q2_grid_cell q2_grid_top q2_code q2_way q3 q3_row k0_counts_cell k0_numbers_items k0_numbers_size k0_known k1_cell k2_grid_cell k2_grid_top k2_code k2_way k2_made k3_row) (wdX3_find G q0 q0_counts q0_counts_cell q0_counts_top q0_numbers q0_numbers_items q1 q1_cell q1_top q2 q2_grid q2_grid_cell q2_grid_top q2_code q2_way q3 q3_row res.1 res.2.1 res.2.2.1 res.2.2.2.1 k1_cell res.2.2.2.2.1 res.2.2.2.2.2.1 res.2.2.2.2.2.2.1 res.2.2.2.2.2.2.2.1 res.2.2.2.2.2.2.2.2.1 res.2.2.2.2.2.2.2.2.2) none := by
  refine Ct.of (cc := cX3_find) (nL := 7) (ret := none) (by decide) rfl (Nat.le_of_ble_eq_true rfl) rfl ?_
  intro p e s m below meth c A ls C hP hD hl
  obtain ⟨hx, hb, hml, hown, hts, hr, hlocks, hA, hG⟩ := id C
  have hS : va_S A s.heap s.heap [] := va_S.rf
  unfold fX3_find at hf
  refine lv_aload_n hx hb dX3_find_0 rfl (lv_at hl 0 rfl) ?_
  refine va_get (D := G.1) (ci := 3) (v := .int k0_known) (C := RX3) (T := TX3) (N := 3) hx hb hts nX3_find_X3 hown hG.1 hP 0 rfl rfl 2 (by decide) (hts _ mX3_find_0) (fun _ h9 => h9) rfl dX3_find_1 ?_
  refine lv_if_eq (tgt := 8) hx hb dX3_find_4 (by decide) (fun hc => ?_) (fun hc => ?_)
  · have hf := if_t hc hf
    refine lv_aload_n hx hb dX3_find_8 rfl (lv_at hl 0 rfl) ?_
    refine va_get (D := G.1) (ci := 3) (v := .ref q0_counts) (C := RX3) (T := TX3) (N := 3) hx hb hts nX3_find_X3 hown hG.1 hP 0 rfl rfl 0 (by decide) (hts _ mX3_find_1) (fun _ h9 => h9) rfl dX3_find_9 ?_
    refine lv_aload_n hx hb dX3_find_12 rfl (lv_at hl 1 rfl) ?_
    obtain ⟨r9, hr9, hf⟩ := bd_use hf
    refine cl_V (wn := (wdX3_find G q0 q0_counts q0_counts_cell q0_counts_top q0_numbers q0_numbers_items q1 q1_cell q1_top q2 q2_grid q2_grid_cell q2_grid_top q2_code q2_way q3 q3_row r9 k0_numbers_items k0_numbers_size k0_known k1_cell k2_grid_cell k2_grid_top k2_code k2_way k2_made k3_row)) (st1 := []) C hP hD hS (tX2_copy l G q0_counts q0_counts_cell q0_counts_top q1 q1_cell q1_top k0_counts_cell k1_cell r9 hr9) (cwV 1 hts gX3_find_X2_copy rfl rfl rfl (by decide +kernel) ⟨Nat.le_of_ble_eq_true rfl, Nat.le_of_ble_eq_true rfl⟩) [1, 2, 5, 6] [0, 3, 4, 7, 8, 9, 10, 11, 12, 13, 14] [0, 11, 12, 1, 2, 13, 14, 3, 4, 5, 6, 7, 8, 9, 10] rfl rfl rfl rfl (by decide) rfl rfl (ci := 2) (q0 := 1) rfl rfl rfl rfl hl.1 rfl rfl (Nat.le_of_ble_eq_true rfl) dX3_find_13 (fun H locs hP hD hS => ?_)
    refine lv_aload_n hx hb dX3_find_16 rfl (lv_at hl 0 rfl) ?_
    refine va_get (D := G.1) (ci := 3) (v := .ref q0_numbers) (C := RX3) (T := TX3) (N := 3) hx hb hts nX3_find_X3 hown hG.1 hP 0 rfl rfl 1 (by decide) (hts _ mX3_find_3) (fun _ h9 => h9) rfl dX3_find_17 ?_
    obtain ⟨r10, hr10, hf⟩ := bd_use hf
    refine cl_V (wn := (wdX3_find G q0 q0_counts q0_counts_cell q0_counts_top q0_numbers q0_numbers_items q1 q1_cell q1_top q2 q2_grid q2_grid_cell q2_grid_top q2_code q2_way q3 q3_row r9 k0_numbers_items r10 k0_known k1_cell k2_grid_cell k2_grid_top k2_code k2_way k2_made k3_row)) (st1 := []) C hP hD hS (tX0_clear l G q0_numbers q0_numbers_items k0_numbers_size r10 hr10) (cwV 0 hts gX3_find_X0_clear rfl rfl rfl (by decide +kernel) ⟨Nat.le_of_ble_eq_true rfl, Nat.le_of_ble_eq_true rfl⟩) [3] [0, 1, 2, 4, 5, 6, 7, 8, 9, 10, 11, 12, 13, 14] [0, 1, 2, 14, 3, 4, 5, 6, 7, 8, 9, 10, 11, 12, 13] rfl rfl rfl rfl (by decide) rfl rfl (ci := 0) (q0 := 3) rfl rfl rfl rfl hl.1 rfl rfl (Nat.le_of_ble_eq_true rfl) dX3_find_20 (fun H locs hP hD hS => ?_)
    refine lv_sipush (v := (3023 : Int32)) hx hb dX3_find_23 (by decide) ?_
    refine lv_istore (lv' := [(4, .int (3023 : Int32)), (0, .ref q0), (1, .ref q1), (2, .ref q2), (3, .ref q3)]) hx hb dX3_find_26 hl (by decide) rfl (fun ls hl => ?_)
    exact wX3_find_28 C q0 q0_counts q0_counts_cell q0_counts_top q0_numbers q0_numbers_items q1 q1_cell q1_top q2 q2_grid q2_grid_cell q2_grid_top q2_code q2_way q3 q3_row k1_cell res fu r9 k0_numbers_items r10 k0_known k2_grid_cell k2_grid_top k2_code k2_way k2_made k3_row (3023 : Int32) _ _ ls hf hP hD hS (lv_sub hl [1, 3, 4, 0] rfl)
  · have hf := if_f hc hf
    cases hf
    exact rt_v C hP hD hS dX3_find_7
abbrev wdX5_plain (G : GX) (q0 : Nat) (q0_first : Nat) (q0_first_row : Nat) (q0_second : Nat) (q0_third : Nat) (q0_list : Nat) (q0_page : Nat) (q0_single : Nat) (q0_parts : Nat) (k0_first_row : Nat → Int32) : va_W := [(q0, .inr (5, [.ref q0_first, .ref q0_second, .ref q0_third, .ref q0_list, .ref q0_page, .ref q0_single, .ref q0_parts])), (q0_first, .inr (1, [.ref q0_first_row])), (q0_first_row, .inl (G.2.1, 10, .inl k0_first_row))]
abbrev rmX5_plain : Room := { frames := 2, cells := 0, slots := 0, locals := 47 }
abbrev glX5_plain (p : Program) (l : Launch) (e : Env) (s : State) (m : MethodId) (args : Array Value) (below : List Frame) (meth : Method) (c : Code) (G : GX) (A : Nat → Prop) (q0 : Nat) (q0_first : Nat) (q0_first_row : Nat) (q0_second : Nat) (q0_third : Nat) (q0_list : Nat) (q0_page : Nat) (q0_single : Nat) (q0_parts : Nat) (res : Int32 × (Nat → Int32)) (H : Heap) (locs : List Loc) (pc : Nat) (ls : Array Slot) (st : List Value) : Prop := W p l e rmX5_plain s m args below meth c H locs 0 0 (MQ below (ctQ G A (wdX5_plain G q0 q0_first q0_first_row q0_second q0_third q0_list q0_page q0_single q0_parts res.2) (some (.int res.1))) args s 0 0 A) (F0 m pc ls st)
set_option maxRecDepth 20000 in
theorem mX5_plain_0 : Cond.fieldLink RX5 12 "SchubertDesk" "first" "LSchubertDesk$Digits;" ∈ wsX5_plain := by decide +kernel
set_option maxRecDepth 20000 in
theorem nX5_plain_X5 : ∀ w ∈ u_ws RX5 TX5 7, w ∈ wsX5_plain := by decide +kernel
set_option maxHeartbeats 4000000 in
set_option maxRecDepth 100000 in
theorem tX5_plain (l : Launch) (G : GX) (q0 : Nat) (q0_first : Nat) (q0_first_row : Nat) (q0_second : Nat) (q0_third : Nat) (q0_list : Nat) (q0_page : Nat) (q0_single : Nat) (q0_parts : Nat) (k0_first_row : Nat → Int32) (p1 : Int32) (res : Int32 × (Nat → Int32)) (hf : fX5_plain k0_first_row p1 = some res) : Ct l yX5_plain wsX5_plain rmX5_plain G [.ref q0, .int p1] (wdX5_plain G q0 q0_first q0_first_row q0_second q0_third q0_list q0_page q0_single q0_parts k0_first_row) (wdX5_plain G q0 q0_first q0_first_row q0_second q0_third q0_list q0_page q0_single q0_parts res.2) (some (.int res.1)) := by
  refine Ct.of (cc := cX5_plain) (nL := 2) (ret := (some .int)) (by decide) rfl (Nat.le_of_ble_eq_true rfl) rfl ?_
  intro p e s m below meth c A ls C hP hD hl
  obtain ⟨hx, hb, hml, hown, hts, hr, hlocks, hA, hG⟩ := id C
  have hS : va_S A s.heap s.heap [] := va_S.rf
  unfold fX5_plain at hf
  refine lv_aload_n hx hb dX5_plain_0 rfl (lv_at hl 0 rfl) ?_
  refine va_get (D := G.1) (ci := 5) (v := .ref q0_first) (C := RX5) (T := TX5) (N := 7) hx hb hts nX5_plain_X5 hown hG.1 hP 0 rfl rfl 0 (by decide) (hts _ mX5_plain_0) (fun _ h9 => h9) rfl dX5_plain_1 ?_
  refine lv_iload_n hx hb dX5_plain_4 rfl (lv_at hl 1 rfl) ?_
  obtain ⟨r1, hr1, hf⟩ := bd_use hf
  refine cl_V (wn := (wdX5_plain G q0 q0_first q0_first_row q0_second q0_third q0_list q0_page q0_single q0_parts r1.2)) (st1 := [.int r1.1]) C hP hD hS (tX1_read l G q0_first q0_first_row k0_first_row p1 r1 hr1) (cwV 1 hts gX5_plain_X1_read rfl rfl rfl (by decide +kernel) ⟨Nat.le_of_ble_eq_true rfl, Nat.le_of_ble_eq_true rfl⟩) [1, 2] [0] [0, 1, 2] rfl rfl rfl rfl (by decide) rfl rfl (ci := 1) (q0 := 1) rfl rfl rfl rfl hl.1 rfl rfl (Nat.le_of_ble_eq_true rfl) dX5_plain_5 (fun H locs hP hD hS => ?_)
  refine lv_if_eq (tgt := 21) hx hb dX5_plain_8 (by decide) (fun hc => ?_) (fun hc => ?_)
  · have hf := if_t hc hf
    refine lv_bipush (v := (-2 : Int32)) hx hb dX5_plain_21 (by decide) ?_
    cases hf
    exact rt_i C hP hD hS dX5_plain_23
  · have hf := if_f hc hf
    refine lv_aload_n hx hb dX5_plain_11 rfl (lv_at hl 0 rfl) ?_
    refine va_get (D := G.1) (ci := 5) (v := .ref q0_first) (C := RX5) (T := TX5) (N := 7) hx hb hts nX5_plain_X5 hown hG.1 hP 0 rfl rfl 0 (by decide) (hts _ mX5_plain_0) (fun _ h9 => h9) rfl dX5_plain_12 ?_
    obtain ⟨r2, hr2, hf⟩ := bd_use hf
    refine cl_V (wn := (wdX5_plain G q0 q0_first q0_first_row q0_second q0_third q0_list q0_page q0_single q0_parts r1.2)) (st1 := [.int r2]) C hP hD hS (tX1_plainNumber l G q0_first q0_first_row r1.2 r2 hr2) (cwV 0 hts gX5_plain_X1_plainNumber rfl rfl rfl (by decide +kernel) ⟨Nat.le_of_ble_eq_true rfl, Nat.le_of_ble_eq_true rfl⟩) [1, 2] [0] [0, 1, 2] rfl rfl rfl rfl (by decide) rfl rfl (ci := 1) (q0 := 1) rfl rfl rfl rfl hl.1 rfl rfl (Nat.le_of_ble_eq_true rfl) dX5_plain_15 (fun H locs hP hD hS => ?_)
    refine lv_goto (tgt := 23) hx hb dX5_plain_18 (by decide) ?_
    cases hf
    exact rt_i C hP hD hS dX5_plain_23
abbrev wdX5_length (G : GX) (q0 : Nat) (q0_first : Nat) (q0_first_row : Nat) (q0_second : Nat) (q0_third : Nat) (q0_list : Nat) (q0_page : Nat) (q0_single : Nat) (q0_parts : Nat) (k0_first_row : Nat → Int32) : va_W := [(q0, .inr (5, [.ref q0_first, .ref q0_second, .ref q0_third, .ref q0_list, .ref q0_page, .ref q0_single, .ref q0_parts])), (q0_first, .inr (1, [.ref q0_first_row])), (q0_first_row, .inl (G.2.1, 10, .inl k0_first_row))]
abbrev rmX5_length : Room := { frames := 3, cells := 0, slots := 0, locals := 66 }
abbrev glX5_length (p : Program) (l : Launch) (e : Env) (s : State) (m : MethodId) (args : Array Value) (below : List Frame) (meth : Method) (c : Code) (G : GX) (A : Nat → Prop) (q0 : Nat) (q0_first : Nat) (q0_first_row : Nat) (q0_second : Nat) (q0_third : Nat) (q0_list : Nat) (q0_page : Nat) (q0_single : Nat) (q0_parts : Nat) (res : Int32 × (Nat → Int32)) (H : Heap) (locs : List Loc) (pc : Nat) (ls : Array Slot) (st : List Value) : Prop := W p l e rmX5_length s m args below meth c H locs 0 0 (MQ below (ctQ G A (wdX5_length G q0 q0_first q0_first_row q0_second q0_third q0_list q0_page q0_single q0_parts res.2) (some (.int res.1))) args s 0 0 A) (F0 m pc ls st)
set_option maxRecDepth 20000 in
theorem mX5_length_0 : Cond.fieldLink RX5 12 "SchubertDesk" "first" "LSchubertDesk$Digits;" ∈ wsX5_length := by decide +kernel
set_option maxRecDepth 20000 in
theorem nX5_length_X5 : ∀ w ∈ u_ws RX5 TX5 7, w ∈ wsX5_length := by decide +kernel
set_option maxHeartbeats 4000000 in
set_option maxRecDepth 100000 in
theorem tX5_length (l : Launch) (G : GX) (q0 : Nat) (q0_first : Nat) (q0_first_row : Nat) (q0_second : Nat) (q0_third : Nat) (q0_list : Nat) (q0_page : Nat) (q0_single : Nat) (q0_parts : Nat) (k0_first_row : Nat → Int32) (p1 : Int32) (res : Int32 × (Nat → Int32)) (hf : fX5_length k0_first_row p1 = some res) : Ct l yX5_length wsX5_length rmX5_length G [.ref q0, .int p1] (wdX5_length G q0 q0_first q0_first_row q0_second q0_third q0_list q0_page q0_single q0_parts k0_first_row) (wdX5_length G q0 q0_first q0_first_row q0_second q0_third q0_list q0_page q0_single q0_parts res.2) (some (.int res.1)) := by
  refine Ct.of (cc := cX5_length) (nL := 2) (ret := (some .int)) (by decide) rfl (Nat.le_of_ble_eq_true rfl) rfl ?_
  intro p e s m below meth c A ls C hP hD hl
  obtain ⟨hx, hb, hml, hown, hts, hr, hlocks, hA, hG⟩ := id C
  have hS : va_S A s.heap s.heap [] := va_S.rf
  unfold fX5_length at hf
  refine lv_aload_n hx hb dX5_length_0 rfl (lv_at hl 0 rfl) ?_
  refine va_get (D := G.1) (ci := 5) (v := .ref q0_first) (C := RX5) (T := TX5) (N := 7) hx hb hts nX5_length_X5 hown hG.1 hP 0 rfl rfl 0 (by decide) (hts _ mX5_length_0) (fun _ h9 => h9) rfl dX5_length_1 ?_
  refine lv_iload_n hx hb dX5_length_4 rfl (lv_at hl 1 rfl) ?_
  obtain ⟨r1, hr1, hf⟩ := bd_use hf
  refine cl_V (wn := (wdX5_length G q0 q0_first q0_first_row q0_second q0_third q0_list q0_page q0_single q0_parts r1.2)) (st1 := [.int r1.1]) C hP hD hS (tX1_read l G q0_first q0_first_row k0_first_row p1 r1 hr1) (cwV 1 hts gX5_length_X1_read rfl rfl rfl (by decide +kernel) ⟨Nat.le_of_ble_eq_true rfl, Nat.le_of_ble_eq_true rfl⟩) [1, 2] [0] [0, 1, 2] rfl rfl rfl rfl (by decide) rfl rfl (ci := 1) (q0 := 1) rfl rfl rfl rfl hl.1 rfl rfl (Nat.le_of_ble_eq_true rfl) dX5_length_5 (fun H locs hP hD hS => ?_)
  refine lv_if_eq (tgt := 21) hx hb dX5_length_8 (by decide) (fun hc => ?_) (fun hc => ?_)
  · have hf := if_t hc hf
    refine lv_bipush (v := (-2 : Int32)) hx hb dX5_length_21 (by decide) ?_
    cases hf
    exact rt_i C hP hD hS dX5_length_23
  · have hf := if_f hc hf
    refine lv_aload_n hx hb dX5_length_11 rfl (lv_at hl 0 rfl) ?_
    refine va_get (D := G.1) (ci := 5) (v := .ref q0_first) (C := RX5) (T := TX5) (N := 7) hx hb hts nX5_length_X5 hown hG.1 hP 0 rfl rfl 0 (by decide) (hts _ mX5_length_0) (fun _ h9 => h9) rfl dX5_length_12 ?_
    obtain ⟨r2, hr2, hf⟩ := bd_use hf
    refine cl_V (wn := (wdX5_length G q0 q0_first q0_first_row q0_second q0_third q0_list q0_page q0_single q0_parts r1.2)) (st1 := [.int r2]) C hP hD hS (tX1_inversions l G q0_first q0_first_row r1.2 r2 hr2) (cwV 0 hts gX5_length_X1_inversions rfl rfl rfl (by decide +kernel) ⟨Nat.le_of_ble_eq_true rfl, Nat.le_of_ble_eq_true rfl⟩) [1, 2] [0] [0, 1, 2] rfl rfl rfl rfl (by decide) rfl rfl (ci := 1) (q0 := 1) rfl rfl rfl rfl hl.1 rfl rfl (Nat.le_of_ble_eq_true rfl) dX5_length_15 (fun H locs hP hD hS => ?_)
    refine lv_goto (tgt := 23) hx hb dX5_length_18 (by decide) ?_
    cases hf
    exact rt_i C hP hD hS dX5_length_23
