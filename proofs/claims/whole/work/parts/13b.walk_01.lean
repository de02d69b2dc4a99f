abbrev wdX5_exponentAt (G : GX) : va_W := []
abbrev rmX5_exponentAt : Room := { frames := 0, cells := 0, slots := 0, locals := 0 }
abbrev glX5_exponentAt (p : Program) (l : Launch) (e : Env) (s : State) (m : MethodId) (args : Array Value) (below : List Frame) (meth : Method) (c : Code) (G : GX) (A : Nat → Prop) (res : Int32) (H : Heap) (locs : List Loc) (pc : Nat) (ls : Array Slot) (st : List Value) : Prop := W p l e rmX5_exponentAt s m args below meth c H locs 0 0 (MQ below (ctQ G A (wdX5_exponentAt G) (some (.int res))) args s 0 0 A) (F0 m pc ls st)
set_option maxHeartbeats 4000000 in
set_option maxRecDepth 100000 in
theorem tX5_exponentAt (l : Launch) (G : GX) (p0 : Int32) (p1 : Int32) (res : Int32) (hf : fX5_exponentAt p0 p1 = some res) : Ct l yX5_exponentAt wsX5_exponentAt rmX5_exponentAt G [.int p0, .int p1] (wdX5_exponentAt G) (wdX5_exponentAt G) (some (.int res)) := by
  refine Ct.of (cc := cX5_exponentAt) (nL := 2) (ret := (some .int)) (by decide) rfl (Nat.le_of_ble_eq_true rfl) rfl ?_
  intro p e s m below meth c A ls C hP hD hl
  obtain ⟨hx, hb, hml, hown, hts, hr, hlocks, hA, hG⟩ := id C
  have hS : va_S A s.heap s.heap [] := va_S.rf
  unfold fX5_exponentAt at hf
  refine lv_iload_n hx hb dX5_exponentAt_0 rfl (lv_at hl 1 rfl) ?_
  by_cases hs0 : p1 = (1 : Int32)
  · have hf := if_t hs0 hf
    refine lv_tableIn (tgt := 32) (off := 31) hx hb dX5_exponentAt_1 (by rw [hs0]; decide) (by rw [hs0]; decide) (by rw [hs0]; decide) (by decide) ?_
    refine lv_iload_n hx hb dX5_exponentAt_32 rfl (lv_at hl 0 rfl) ?_
    refine lv_bipush (v := (9 : Int32)) hx hb dX5_exponentAt_33 (by decide) ?_
    refine lv_irem hx hb dX5_exponentAt_35 (by decide) ?_
    cases hf
    exact rt_i C hP hD hS dX5_exponentAt_36
  · have hf := if_f hs0 hf
    by_cases hs1 : p1 = (2 : Int32)
    · have hf := if_t hs1 hf
      refine lv_tableIn (tgt := 37) (off := 36) hx hb dX5_exponentAt_1 (by rw [hs1]; decide) (by rw [hs1]; decide) (by rw [hs1]; decide) (by decide) ?_
      refine lv_iload_n hx hb dX5_exponentAt_37 rfl (lv_at hl 0 rfl) ?_
      refine lv_bipush (v := (9 : Int32)) hx hb dX5_exponentAt_38 (by decide) ?_
      refine lv_idiv hx hb dX5_exponentAt_40 (by decide) ?_
      refine lv_bipush (v := (8 : Int32)) hx hb dX5_exponentAt_41 (by decide) ?_
      refine lv_irem hx hb dX5_exponentAt_43 (by decide) ?_
      cases hf
      exact rt_i C hP hD hS dX5_exponentAt_44
    · have hf := if_f hs1 hf
      by_cases hs2 : p1 = (3 : Int32)
      · have hf := if_t hs2 hf
        refine lv_tableIn (tgt := 45) (off := 44) hx hb dX5_exponentAt_1 (by rw [hs2]; decide) (by rw [hs2]; decide) (by rw [hs2]; decide) (by decide) ?_
        refine lv_iload_n hx hb dX5_exponentAt_45 rfl (lv_at hl 0 rfl) ?_
        refine lv_bipush (v := (72 : Int32)) hx hb dX5_exponentAt_46 (by decide) ?_
        refine lv_idiv hx hb dX5_exponentAt_48 (by decide) ?_
        refine lv_bipush (v := (7 : Int32)) hx hb dX5_exponentAt_49 (by decide) ?_
        refine lv_irem hx hb dX5_exponentAt_51 (by decide) ?_
        cases hf
        exact rt_i C hP hD hS dX5_exponentAt_52
      · have hf := if_f hs2 hf
        by_cases hs3 : p1 = (4 : Int32)
        · have hf := if_t hs3 hf
          refine lv_tableIn (tgt := 53) (off := 52) hx hb dX5_exponentAt_1 (by rw [hs3]; decide) (by rw [hs3]; decide) (by rw [hs3]; decide) (by decide) ?_
          refine lv_iload_n hx hb dX5_exponentAt_53 rfl (lv_at hl 0 rfl) ?_
          refine lv_sipush (v := (504 : Int32)) hx hb dX5_exponentAt_54 (by decide) ?_
          refine lv_idiv hx hb dX5_exponentAt_57 (by decide) ?_
          cases hf
          exact rt_i C hP hD hS dX5_exponentAt_58
        · have hf := if_f hs3 hf
          refine lv_tableOut (tgt := 59) hx hb dX5_exponentAt_1 (sw_out (fun k h1 h2 => by rcases (show k = 1 ∨ k = 2 ∨ k = 3 ∨ k = 4 by omega) with rfl | rfl | rfl | rfl <;> first | exact hs0 | exact hs1 | exact hs2 | exact hs3)) (by decide) ?_
          refine lv_iconst (v := (0 : Int32)) hx hb dX5_exponentAt_59 (by decide) ?_
          cases hf
          exact rt_i C hP hD hS dX5_exponentAt_60
abbrev wdX1_unusedAbove (G : GX) : va_W := []
abbrev rmX1_unusedAbove : Room := { frames := 0, cells := 0, slots := 0, locals := 0 }
abbrev glX1_unusedAbove (p : Program) (l : Launch) (e : Env) (s : State) (m : MethodId) (args : Array Value) (below : List Frame) (meth : Method) (c : Code) (G : GX) (A : Nat → Prop) (res : Int32) (H : Heap) (locs : List Loc) (pc : Nat) (ls : Array Slot) (st : List Value) : Prop := W p l e rmX1_unusedAbove s m args below meth c H locs 0 0 (MQ below (ctQ G A (wdX1_unusedAbove G) (some (.int res))) args s 0 0 A) (F0 m pc ls st)
set_option maxHeartbeats 4000000 in
set_option maxRecDepth 100000 in
theorem wX1_unusedAbove_4 {p : Program} {l : Launch} {e : Env} {s : State} {m : MethodId} {args : Array Value} {below : List Frame} {meth : Method} {c : Code} {G : GX} {A : Nat → Prop} (C : Cx p s m args meth c cX1_unusedAbove 4 (some .int) wsX1_unusedAbove RX1 G A) (p0 : Int32) (p1 : Int32) (res : Int32) (n : Nat) : ∀ (x2 : Int32) (x3 : Int32) (H : Heap) (locs : List Loc) (ls : Array Slot), fX1_unusedAbove_L4 p0 p1 n x2 x3 = some res → va_P G.1 vwCl (wdX1_unusedAbove G) H → va_D A (wdX1_unusedAbove G) → va_S A s.heap H locs → lv_has ls 4 [(0, .int p0), (2, .int x2), (3, .int x3)] → glX1_unusedAbove p l e s m args below meth c G A res H locs 4 ls [] := by
  obtain ⟨hx, hb, hml, hown, hts, hr, hlocks, hA, hG⟩ := id C
  induction n with
  | zero => intro x2 x3 H locs ls hf hP hD hS hl; cases hf
  | succ n ih =>
    intro x2 x3 H locs ls hf hP hD hS hl
    simp only [fX1_unusedAbove_L4] at hf
    refine lv_iload_n hx hb dX1_unusedAbove_4 rfl (lv_at hl 2 rfl) ?_
    refine lv_bipush (v := (9 : Int32)) hx hb dX1_unusedAbove_5 (by decide) ?_
    refine lv_icmp_ge (tgt := 33) hx hb dX1_unusedAbove_7 (by decide) (fun hc => ?_) (fun hc => ?_)
    · have hf := if_t hc hf
      refine lv_bipush (v := (9 : Int32)) hx hb dX1_unusedAbove_33 (by decide) ?_
      cases hf
      exact rt_i C hP hD hS dX1_unusedAbove_35
    · have hf := if_f hc hf
      refine lv_iload_n hx hb dX1_unusedAbove_10 rfl (lv_at hl 0 rfl) ?_
      refine lv_iload_n hx hb dX1_unusedAbove_11 rfl (lv_at hl 2 rfl) ?_
      refine lv_ishr hx hb dX1_unusedAbove_12 ?_
      refine lv_iconst (v := (1 : Int32)) hx hb dX1_unusedAbove_13 (by decide) ?_
      refine lv_iand hx hb dX1_unusedAbove_14 ?_
      refine lv_if_ne (tgt := 27) hx hb dX1_unusedAbove_15 (by decide) (fun hc => ?_) (fun hc => ?_)
      · have hf := if_f hc hf
        obtain ⟨y1, ey1⟩ : ∃ z : Int32, z = x3 + (1 : Int32) := ⟨_, rfl⟩
        have hf := nm_use ey1 hf
        refine lv_iinc (v := y1) (lv' := [(3, .int y1), (0, .int p0), (2, .int x2)]) hx hb dX1_unusedAbove_27 hl (k := 2) rfl (by rw [ey1]; rfl) (by decide) rfl (fun ls hl => ?_)
        refine lv_goto (tgt := 4) hx hb dX1_unusedAbove_30 (by decide) ?_
        exact ih x2 y1 _ _ ls hf hP hD hS (lv_sub hl [1, 2, 0] rfl)
      · have hf := if_t hc hf
        refine lv_iload_n hx hb dX1_unusedAbove_18 rfl (lv_at hl 1 rfl) ?_
        refine lv_if_ne (tgt := 24) hx hb dX1_unusedAbove_19 (by decide) (fun hc => ?_) (fun hc => ?_)
        · have hf := if_f hc hf
          obtain ⟨y2, ey2⟩ : ∃ z : Int32, z = x2 + (-1 : Int32) := ⟨_, rfl⟩
          have hf := nm_use ey2 hf
          refine lv_iinc (v := y2) (lv' := [(2, .int y2), (0, .int p0), (3, .int x3)]) hx hb dX1_unusedAbove_24 hl (k := 1) rfl (by rw [ey2]; rfl) (by decide) rfl (fun ls hl => ?_)
          obtain ⟨y3, ey3⟩ : ∃ z : Int32, z = x3 + (1 : Int32) := ⟨_, rfl⟩
          have hf := nm_use ey3 hf
          refine lv_iinc (v := y3) (lv' := [(3, .int y3), (2, .int y2), (0, .int p0)]) hx hb dX1_unusedAbove_27 hl (k := 2) rfl (by rw [ey3]; rfl) (by decide) rfl (fun ls hl => ?_)
          refine lv_goto (tgt := 4) hx hb dX1_unusedAbove_30 (by decide) ?_
          exact ih y2 y3 _ _ ls hf hP hD hS (lv_sub hl [2, 1, 0] rfl)
        · have hf := if_t hc hf
          refine lv_iload_n hx hb dX1_unusedAbove_22 rfl (lv_at hl 2 rfl) ?_
          cases hf
          exact rt_i C hP hD hS dX1_unusedAbove_23
set_option maxHeartbeats 4000000 in
set_option maxRecDepth 100000 in
theorem tX1_unusedAbove (l : Launch) (G : GX) (p0 : Int32) (p1 : Int32) (res : Int32) (hf : fX1_unusedAbove p0 p1 = some res) : Ct l yX1_unusedAbove wsX1_unusedAbove rmX1_unusedAbove G [.int p0, .int p1] (wdX1_unusedAbove G) (wdX1_unusedAbove G) (some (.int res)) := by
  refine Ct.of (cc := cX1_unusedAbove) (nL := 4) (ret := (some .int)) (by decide) rfl (Nat.le_of_ble_eq_true rfl) rfl ?_
  intro p e s m below meth c A ls C hP hD hl
  obtain ⟨hx, hb, hml, hown, hts, hr, hlocks, hA, hG⟩ := id C
  have hS : va_S A s.heap s.heap [] := va_S.rf
  unfold fX1_unusedAbove at hf
  refine lv_iload_n hx hb dX1_unusedAbove_0 rfl (lv_at hl 1 rfl) ?_
  refine lv_istore_n (lv' := [(2, .int p1), (0, .int p0), (1, .int p1)]) hx hb dX1_unusedAbove_1 rfl hl (by decide) rfl (fun ls hl => ?_)
  refine lv_iconst (v := (1 : Int32)) hx hb dX1_unusedAbove_2 (by decide) ?_
  refine lv_istore_n (lv' := [(3, .int (1 : Int32)), (2, .int p1), (0, .int p0), (1, .int p1)]) hx hb dX1_unusedAbove_3 rfl hl (by decide) rfl (fun ls hl => ?_)
  exact wX1_unusedAbove_4 C p0 p1 res fu p1 (1 : Int32) _ _ ls hf hP hD hS (lv_sub hl [2, 1, 0] rfl)
abbrev wdX1_becomeOfCode (G : GX) (q0 : Nat) (q0_row : Nat) (k0_row : Nat → Int32) : va_W := [(q0, .inr (1, [.ref q0_row])), (q0_row, .inl (G.2.1, 10, .inl k0_row))]
abbrev rmX1_becomeOfCode : Room := { frames := 1, cells := 0, slots := 0, locals := 23 }
abbrev glX1_becomeOfCode (p : Program) (l : Launch) (e : Env) (s : State) (m : MethodId) (args : Array Value) (below : List Frame) (meth : Method) (c : Code) (G : GX) (A : Nat → Prop) (q0 : Nat) (q0_row : Nat) (res : (Nat → Int32)) (H : Heap) (locs : List Loc) (pc : Nat) (ls : Array Slot) (st : List Value) : Prop := W p l e rmX1_becomeOfCode s m args below meth c H locs 0 0 (MQ below (ctQ G A (wdX1_becomeOfCode G q0 q0_row res) none) args s 0 0 A) (F0 m pc ls st)
set_option maxRecDepth 20000 in
theorem mX1_becomeOfCode_0 : Cond.initialized RX5 ∈ wsX1_becomeOfCode := by decide +kernel
set_option maxRecDepth 20000 in
theorem mX1_becomeOfCode_1 : Cond.static yX5_exponentAt ∈ wsX1_becomeOfCode := by decide +kernel
set_option maxRecDepth 20000 in
theorem mX1_becomeOfCode_2 : Cond.fieldLink RX1 9 "SchubertDesk$Digits" "row" "[I" ∈ wsX1_becomeOfCode := by decide +kernel
set_option maxRecDepth 20000 in
theorem nX1_becomeOfCode_X1 : ∀ w ∈ u_ws RX1 TX1 1, w ∈ wsX1_becomeOfCode := by decide +kernel
set_option maxHeartbeats 4000000 in
set_option maxRecDepth 100000 in
theorem wX1_becomeOfCode_4 {p : Program} {l : Launch} {e : Env} {s : State} {m : MethodId} {args : Array Value} {below : List Frame} {meth : Method} {c : Code} {G : GX} {A : Nat → Prop} (C : Cx p s m args meth c cX1_becomeOfCode 5 none wsX1_becomeOfCode RX1 G A) (q0 : Nat) (q0_row : Nat) (p1 : Int32) (res : (Nat → Int32)) (n : Nat) : ∀ (k0_row : Nat → Int32) (x2 : Int32) (x3 : Int32) (H : Heap) (locs : List Loc) (ls : Array Slot), fX1_becomeOfCode_L4 p1 n k0_row x2 x3 = some res → va_P G.1 vwCl (wdX1_becomeOfCode G q0 q0_row k0_row) H → va_D A (wdX1_becomeOfCode G q0 q0_row k0_row) → va_S A s.heap H locs → lv_has ls 5 [(0, .ref q0), (1, .int p1), (2, .int x2), (3, .int x3)] → glX1_becomeOfCode p l e s m args below meth c G A q0 q0_row res H locs 4 ls [] := by
  obtain ⟨hx, hb, hml, hown, hts, hr, hlocks, hA, hG⟩ := id C
  induction n with
  | zero => intro k0_row x2 x3 H locs ls hf hP hD hS hl; cases hf
  | succ n ih =>
    intro k0_row x2 x3 H locs ls hf hP hD hS hl
    simp only [fX1_becomeOfCode_L4] at hf
    refine lv_iload_n hx hb dX1_becomeOfCode_4 rfl (lv_at hl 3 rfl) ?_
    refine lv_bipush (v := (9 : Int32)) hx hb dX1_becomeOfCode_5 (by decide) ?_
    refine lv_icmp_gt (tgt := 42) hx hb dX1_becomeOfCode_7 (by decide) (fun hc => ?_) (fun hc => ?_)
    · have hf := if_t hc hf
      cases hf
      exact rt_v C hP hD hS dX1_becomeOfCode_42
    · have hf := if_f hc hf
      refine lv_iload_n hx hb dX1_becomeOfCode_10 rfl (lv_at hl 2 rfl) ?_
      refine lv_iload_n hx hb dX1_becomeOfCode_11 rfl (lv_at hl 1 rfl) ?_
      refine lv_iload_n hx hb dX1_becomeOfCode_12 rfl (lv_at hl 3 rfl) ?_
      obtain ⟨r1, hr1, hf⟩ := bd_use hf
      refine cl_SN (host := RX5) (wn := (wdX1_becomeOfCode G q0 q0_row k0_row)) (st1 := [.int r1, .int x2]) C hP hD hS (tX5_exponentAt l G p1 x3 r1 hr1) ⟨va_cnB 2 hts gX1_becomeOfCode_X5_exponentAt_n27 rfl rfl rfl (hG.2.1 (.methodLinkNest RX1 27 yX5_exponentAt RX5) (by decide +kernel)) (hts _ mX1_becomeOfCode_0) (by decide +kernel) ⟨Nat.le_of_ble_eq_true rfl, Nat.le_of_ble_eq_true rfl⟩, (hts _ mX1_becomeOfCode_1), trivial⟩ [] [0, 1] [0, 1] rfl rfl rfl rfl (by decide) rfl rfl rfl hl.1 rfl rfl (Nat.le_of_ble_eq_true rfl) dX1_becomeOfCode_13 (fun H locs hP hD hS => ?_)
      obtain ⟨r2, hr2, hf⟩ := bd_use hf
      refine cl_S (wn := (wdX1_becomeOfCode G q0 q0_row k0_row)) (st1 := [.int r2]) C hP hD hS (tX1_unusedAbove l G x2 r1 r2 hr2) (va_cwS 2 hts gX1_becomeOfCode_X1_unusedAbove rfl rfl rfl (by decide +kernel) ⟨Nat.le_of_ble_eq_true rfl, Nat.le_of_ble_eq_true rfl⟩) [] [0, 1] [0, 1] rfl rfl rfl rfl (by decide) rfl rfl rfl hl.1 rfl rfl (Nat.le_of_ble_eq_true rfl) dX1_becomeOfCode_16 (fun H locs hP hD hS => ?_)
      refine lv_istore (lv' := [(4, .int r2), (0, .ref q0), (1, .int p1), (2, .int x2), (3, .int x3)]) hx hb dX1_becomeOfCode_19 hl (by decide) rfl (fun ls hl => ?_)
      refine lv_iload_n hx hb dX1_becomeOfCode_21 rfl (lv_at hl 3 rfl) ?_
      refine lv_iconst (v := (1 : Int32)) hx hb dX1_becomeOfCode_22 (by decide) ?_
      refine lv_iload hx hb dX1_becomeOfCode_23 (lv_at hl 0 rfl) ?_
      refine lv_ishl hx hb dX1_becomeOfCode_25 ?_
      refine lv_ior hx hb dX1_becomeOfCode_26 ?_
      refine lv_topi (fun y3 ey3 => ?_)
      have hf := nm_use ey3 hf
      refine lv_istore_n (lv' := [(2, .int y3), (4, .int r2), (0, .ref q0), (1, .int p1), (3, .int x3)]) hx hb dX1_becomeOfCode_27 rfl hl (by decide) rfl (fun ls hl => ?_)
      refine lv_aload_n hx hb dX1_becomeOfCode_28 rfl (lv_at hl 2 rfl) ?_
      refine va_get (D := G.1) (ci := 1) (v := .ref q0_row) (C := RX1) (T := TX1) (N := 1) hx hb hts nX1_becomeOfCode_X1 hown hG.1 hP 0 rfl rfl 0 (by decide) (hts _ mX1_becomeOfCode_2) (fun _ h9 => h9) rfl dX1_becomeOfCode_29 ?_
      refine lv_iload_n hx hb dX1_becomeOfCode_32 rfl (lv_at hl 4 rfl) ?_
      refine lv_iload hx hb dX1_becomeOfCode_33 (lv_at hl 1 rfl) ?_
      obtain ⟨hin, hf⟩ := pI_use hf
      refine va_iast hx hb hG.1 hP hD hS 1 0 rfl rfl hin dX1_becomeOfCode_35 (fun H locs hP hD hS => ?_)
      have hP : va_P G.1 vwCl (wdX1_becomeOfCode G q0 q0_row (upd k0_row (x3).toNatClampNeg r2)) H := hP
      have hD : va_D A (wdX1_becomeOfCode G q0 q0_row (upd k0_row (x3).toNatClampNeg r2)) := hD
      obtain ⟨y5, ey5⟩ : ∃ z : Int32, z = x3 + (1 : Int32) := ⟨_, rfl⟩
      have hf := nm_use ey5 hf
      refine lv_iinc (v := y5) (lv' := [(3, .int y5), (2, .int y3), (4, .int r2), (0, .ref q0), (1, .int p1)]) hx hb dX1_becomeOfCode_36 hl (k := 4) rfl (by rw [ey5]; rfl) (by decide) rfl (fun ls hl => ?_)
      refine lv_goto (tgt := 4) hx hb dX1_becomeOfCode_39 (by decide) ?_
      exact ih (upd k0_row (x3).toNatClampNeg r2) y3 y5 _ _ ls hf hP hD hS (lv_sub hl [3, 4, 1, 0] rfl)
set_option maxHeartbeats 4000000 in
set_option maxRecDepth 100000 in
theorem tX1_becomeOfCode (l : Launch) (G : GX) (q0 : Nat) (q0_row : Nat) (k0_row : Nat → Int32) (p1 : Int32) (res : (Nat → Int32)) (hf : fX1_becomeOfCode k0_row p1 = some res) : Ct l yX1_becomeOfCode wsX1_becomeOfCode rmX1_becomeOfCode G [.ref q0, .int p1] (wdX1_becomeOfCode G q0 q0_row k0_row) (wdX1_becomeOfCode G q0 q0_row res) none := by
  refine Ct.of (cc := cX1_becomeOfCode) (nL := 5) (ret := none) (by decide) rfl (Nat.le_of_ble_eq_true rfl) rfl ?_
  intro p e s m below meth c A ls C hP hD hl
  obtain ⟨hx, hb, hml, hown, hts, hr, hlocks, hA, hG⟩ := id C
  have hS : va_S A s.heap s.heap [] := va_S.rf
  unfold fX1_becomeOfCode at hf
  refine lv_iconst (v := (0 : Int32)) hx hb dX1_becomeOfCode_0 (by decide) ?_
  refine lv_istore_n (lv' := [(2, .int (0 : Int32)), (0, .ref q0), (1, .int p1)]) hx hb dX1_becomeOfCode_1 rfl hl (by decide) rfl (fun ls hl => ?_)
  refine lv_iconst (v := (1 : Int32)) hx hb dX1_becomeOfCode_2 (by decide) ?_
  refine lv_istore_n (lv' := [(3, .int (1 : Int32)), (2, .int (0 : Int32)), (0, .ref q0), (1, .int p1)]) hx hb dX1_becomeOfCode_3 rfl hl (by decide) rfl (fun ls hl => ?_)
  exact wX1_becomeOfCode_4 C q0 q0_row p1 res fu k0_row (0 : Int32) (1 : Int32) _ _ ls hf hP hD hS (lv_sub hl [2, 3, 1, 0] rfl)
abbrev wdX1_becomeMade (G : GX) (q0 : Nat) (q0_row : Nat) (k0_row : Nat → Int32) : va_W := [(q0, .inr (1, [.ref q0_row])), (q0_row, .inl (G.2.1, 10, .inl k0_row))]
abbrev rmX1_becomeMade : Room := { frames := 2, cells := 0, slots := 0, locals := 45 }
abbrev glX1_becomeMade (p : Program) (l : Launch) (e : Env) (s : State) (m : MethodId) (args : Array Value) (below : List Frame) (meth : Method) (c : Code) (G : GX) (A : Nat → Prop) (q0 : Nat) (q0_row : Nat) (res : (Nat → Int32)) (H : Heap) (locs : List Loc) (pc : Nat) (ls : Array Slot) (st : List Value) : Prop := W p l e rmX1_becomeMade s m args below meth c H locs 0 0 (MQ below (ctQ G A (wdX1_becomeMade G q0 q0_row res) none) args s 0 0 A) (F0 m pc ls st)
set_option maxHeartbeats 4000000 in
set_option maxRecDepth 100000 in
theorem wX1_becomeMade_6 {p : Program} {l : Launch} {e : Env} {s : State} {m : MethodId} {args : Array Value} {below : List Frame} {meth : Method} {c : Code} {G : GX} {A : Nat → Prop} (C : Cx p s m args meth c cX1_becomeMade 3 none wsX1_becomeMade RX1 G A) (q0 : Nat) (q0_row : Nat) (p1 : Int32) (res : (Nat → Int32)) (n : Nat) : ∀ (k0_row : Nat → Int32) (x2 : Int32) (H : Heap) (locs : List Loc) (ls : Array Slot), fX1_becomeMade_L6 p1 n k0_row x2 = some res → va_P G.1 vwCl (wdX1_becomeMade G q0 q0_row k0_row) H → va_D A (wdX1_becomeMade G q0 q0_row k0_row) → va_S A s.heap H locs → lv_has ls 3 [(0, .ref q0), (1, .int p1), (2, .int x2)] → glX1_becomeMade p l e s m args below meth c G A q0 q0_row res H locs 6 ls [] := by
  obtain ⟨hx, hb, hml, hown, hts, hr, hlocks, hA, hG⟩ := id C
  induction n with
  | zero => intro k0_row x2 H locs ls hf hP hD hS hl; cases hf
  | succ n ih =>
    intro k0_row x2 H locs ls hf hP hD hS hl
    simp only [fX1_becomeMade_L6] at hf
    refine lv_iload_n hx hb dX1_becomeMade_6 rfl (lv_at hl 2 rfl) ?_
    refine lv_bipush (v := (10 : Int32)) hx hb dX1_becomeMade_7 (by decide) ?_
    refine lv_icmp_ge (tgt := 47) hx hb dX1_becomeMade_9 (by decide) (fun hc => ?_) (fun hc => ?_)
    · have hf := if_t hc hf
      cases hf
      exact rt_v C hP hD hS dX1_becomeMade_47
    · have hf := if_f hc hf
      refine lv_iload_n hx hb dX1_becomeMade_12 rfl (lv_at hl 1 rfl) ?_
      refine va_getsN hx hb hG.2.2.2.2.2.1.1 hS hown (va_Nw.use rfl (hG.2.1 (.fieldLinkNest RX1 34 RX5 "READ_BIT" "[I" RX5) (by decide +kernel))) (fun _ h9 => h9) dX1_becomeMade_13 ?_
      refine lv_iload_n hx hb dX1_becomeMade_16 rfl (lv_at hl 2 rfl) ?_
      obtain ⟨hin, hf⟩ := gI_use hf
      refine va_ti hx hb hG.2.2.2.2.2.1.2 hS hin rfl dX1_becomeMade_17 ?_
      refine lv_ishr hx hb dX1_becomeMade_18 ?_
      refine lv_iconst (v := (1 : Int32)) hx hb dX1_becomeMade_19 (by decide) ?_
      refine lv_iand hx hb dX1_becomeMade_20 ?_
      refine lv_iconst (v := (1 : Int32)) hx hb dX1_becomeMade_21 (by decide) ?_
      refine lv_icmp_ne (tgt := 41) hx hb dX1_becomeMade_22 (by decide) (fun hc => ?_) (fun hc => ?_)
      · have hf := if_f hc hf
        obtain ⟨y2, ey2⟩ : ∃ z : Int32, z = x2 + (1 : Int32) := ⟨_, rfl⟩
        have hf := nm_use ey2 hf
        refine lv_iinc (v := y2) (lv' := [(2, .int y2), (0, .ref q0), (1, .int p1)]) hx hb dX1_becomeMade_41 hl (k := 2) rfl (by rw [ey2]; rfl) (by decide) rfl (fun ls hl => ?_)
        refine lv_goto (tgt := 6) hx hb dX1_becomeMade_44 (by decide) ?_
        exact ih k0_row y2 _ _ ls hf hP hD hS (lv_sub hl [1, 2, 0] rfl)
      · have hf := if_t hc hf
        refine lv_aload_n hx hb dX1_becomeMade_25 rfl (lv_at hl 0 rfl) ?_
        refine va_getsN hx hb hG.2.2.2.2.2.2.1 hS hown (va_Nw.use rfl (hG.2.1 (.fieldLinkNest RX1 37 RX5 "READ_PLACE" "[I" RX5) (by decide +kernel))) (fun _ h9 => h9) dX1_becomeMade_26 ?_
        refine lv_iload_n hx hb dX1_becomeMade_29 rfl (lv_at hl 2 rfl) ?_
        obtain ⟨hin, hf⟩ := gI_use hf
        refine va_ti hx hb hG.2.2.2.2.2.2.2 hS hin rfl dX1_becomeMade_30 ?_
        refine va_getsN hx hb hG.2.2.2.2.2.2.1 hS hown (va_Nw.use rfl (hG.2.1 (.fieldLinkNest RX1 37 RX5 "READ_PLACE" "[I" RX5) (by decide +kernel))) (fun _ h9 => h9) dX1_becomeMade_31 ?_
        refine lv_iload_n hx hb dX1_becomeMade_34 rfl (lv_at hl 2 rfl) ?_
        obtain ⟨hin, hf⟩ := gI_use hf
        refine va_ti hx hb hG.2.2.2.2.2.2.2 hS hin rfl dX1_becomeMade_35 ?_
        refine lv_iconst (v := (1 : Int32)) hx hb dX1_becomeMade_36 (by decide) ?_
        refine lv_iadd hx hb dX1_becomeMade_37 ?_
        obtain ⟨r5, hr5, hf⟩ := bd_use hf
        refine cl_V (wn := (wdX1_becomeMade G q0 q0_row r5)) (st1 := []) C hP hD hS (tX1_exchange l G q0 q0_row k0_row (tREAD_PLACE (x2).toNatClampNeg) ((tREAD_PLACE (x2).toNatClampNeg) + (1 : Int32)) r5 hr5) (cwV 2 hts gX1_becomeMade_X1_exchange rfl rfl rfl (by decide +kernel) ⟨Nat.le_of_ble_eq_true rfl, Nat.le_of_ble_eq_true rfl⟩) [0, 1] [] [0, 1] rfl rfl rfl rfl (by decide) rfl rfl (ci := 1) (q0 := 0) rfl rfl rfl rfl hl.1 rfl rfl (Nat.le_of_ble_eq_true rfl) dX1_becomeMade_38 (fun H locs hP hD hS => ?_)
        obtain ⟨y6, ey6⟩ : ∃ z : Int32, z = x2 + (1 : Int32) := ⟨_, rfl⟩
        have hf := nm_use ey6 hf
        refine lv_iinc (v := y6) (lv' := [(2, .int y6), (0, .ref q0), (1, .int p1)]) hx hb dX1_becomeMade_41 hl (k := 2) rfl (by rw [ey6]; rfl) (by decide) rfl (fun ls hl => ?_)
        refine lv_goto (tgt := 6) hx hb dX1_becomeMade_44 (by decide) ?_
        exact ih r5 y6 _ _ ls hf hP hD hS (lv_sub hl [1, 2, 0] rfl)
set_option maxHeartbeats 4000000 in
set_option maxRecDepth 100000 in
theorem tX1_becomeMade (l : Launch) (G : GX) (q0 : Nat) (q0_row : Nat) (k0_row : Nat → Int32) (p1 : Int32) (res : (Nat → Int32)) (hf : fX1_becomeMade k0_row p1 = some res) : Ct l yX1_becomeMade wsX1_becomeMade rmX1_becomeMade G [.ref q0, .int p1] (wdX1_becomeMade G q0 q0_row k0_row) (wdX1_becomeMade G q0 q0_row res) none := by
  refine Ct.of (cc := cX1_becomeMade) (nL := 3) (ret := none) (by decide) rfl (Nat.le_of_ble_eq_true rfl) rfl ?_
  intro p e s m below meth c A ls C hP hD hl
  obtain ⟨hx, hb, hml, hown, hts, hr, hlocks, hA, hG⟩ := id C
  have hS : va_S A s.heap s.heap [] := va_S.rf
  unfold fX1_becomeMade at hf
  refine lv_aload_n hx hb dX1_becomeMade_0 rfl (lv_at hl 0 rfl) ?_
  obtain ⟨r7, hr7, hf⟩ := bd_use hf
  refine cl_V (wn := (wdX1_becomeMade G q0 q0_row r7)) (st1 := []) C hP hD hS (tX1_stayInPlace l G q0 q0_row k0_row r7 hr7) (cwV 0 hts gX1_becomeMade_X1_stayInPlace rfl rfl rfl (by decide +kernel) ⟨Nat.le_of_ble_eq_true rfl, Nat.le_of_ble_eq_true rfl⟩) [0, 1] [] [0, 1] rfl rfl rfl rfl (by decide) rfl rfl (ci := 1) (q0 := 0) rfl rfl rfl rfl hl.1 rfl rfl (Nat.le_of_ble_eq_true rfl) dX1_becomeMade_1 (fun H locs hP hD hS => ?_)
  refine lv_iconst (v := (0 : Int32)) hx hb dX1_becomeMade_4 (by decide) ?_
  refine lv_istore_n (lv' := [(2, .int (0 : Int32)), (0, .ref q0), (1, .int p1)]) hx hb dX1_becomeMade_5 rfl hl (by decide) rfl (fun ls hl => ?_)
  exact wX1_becomeMade_6 C q0 q0_row p1 res fu r7 (0 : Int32) _ _ ls hf hP hD hS (lv_sub hl [1, 2, 0] rfl)
abbrev wdX1_plainCount (G : GX) (q0 : Nat) (q0_row : Nat) (k0_row : Nat → Int32) : va_W := [(q0, .inr (1, [.ref q0_row])), (q0_row, .inl (G.2.1, 10, .inl k0_row))]
abbrev rmX1_plainCount : Room := { frames := 0, cells := 0, slots := 0, locals := 0 }
abbrev glX1_plainCount (p : Program) (l : Launch) (e : Env) (s : State) (m : MethodId) (args : Array Value) (below : List Frame) (meth : Method) (c : Code) (G : GX) (A : Nat → Prop) (q0 : Nat) (q0_row : Nat) (k0_row : Nat → Int32) (res : Int32) (H : Heap) (locs : List Loc) (pc : Nat) (ls : Array Slot) (st : List Value) : Prop := W p l e rmX1_plainCount s m args below meth c H locs 0 0 (MQ below (ctQ G A (wdX1_plainCount G q0 q0_row k0_row) (some (.int res))) args s 0 0 A) (F0 m pc ls st)
set_option maxRecDepth 20000 in
theorem mX1_plainCount_0 : Cond.fieldLink RX1 9 "SchubertDesk$Digits" "row" "[I" ∈ wsX1_plainCount := by decide +kernel
set_option maxRecDepth 20000 in
theorem nX1_plainCount_X1 : ∀ w ∈ u_ws RX1 TX1 1, w ∈ wsX1_plainCount := by decide +kernel
set_option maxHeartbeats 4000000 in
set_option maxRecDepth 100000 in
theorem wX1_plainCount_3 {p : Program} {l : Launch} {e : Env} {s : State} {m : MethodId} {args : Array Value} {below : List Frame} {meth : Method} {c : Code} {G : GX} {A : Nat → Prop} (C : Cx p s m args meth c cX1_plainCount 2 (some .int) wsX1_plainCount RX1 G A) (q0 : Nat) (q0_row : Nat) (k0_row : Nat → Int32) (res : Int32) (n : Nat) : ∀ (x1 : Int32) (H : Heap) (locs : List Loc) (ls : Array Slot), fX1_plainCount_L3 k0_row n x1 = some res → va_P G.1 vwCl (wdX1_plainCount G q0 q0_row k0_row) H → va_D A (wdX1_plainCount G q0 q0_row k0_row) → va_S A s.heap H locs → lv_has ls 2 [(0, .ref q0), (1, .int x1)] → glX1_plainCount p l e s m args below meth c G A q0 q0_row k0_row res H locs 3 ls [] := by
  obtain ⟨hx, hb, hml, hown, hts, hr, hlocks, hA, hG⟩ := id C
  induction n with
  | zero => intro x1 H locs ls hf hP hD hS hl; cases hf
  | succ n ih =>
    intro x1 H locs ls hf hP hD hS hl
    simp only [fX1_plainCount_L3] at hf
    refine lv_iload_n hx hb dX1_plainCount_3 rfl (lv_at hl 1 rfl) ?_
    refine lv_iconst (v := (1 : Int32)) hx hb dX1_plainCount_4 (by decide) ?_
    refine lv_icmp_le (tgt := 24) hx hb dX1_plainCount_5 (by decide) (fun hc => ?_) (fun hc => ?_)
    · have hf := if_t hc hf
      refine lv_iload_n hx hb dX1_plainCount_24 rfl (lv_at hl 1 rfl) ?_
      cases hf
      exact rt_i C hP hD hS dX1_plainCount_25
    · have hf := if_f hc hf
      refine lv_aload_n hx hb dX1_plainCount_8 rfl (lv_at hl 0 rfl) ?_
      refine va_get (D := G.1) (ci := 1) (v := .ref q0_row) (C := RX1) (T := TX1) (N := 1) hx hb hts nX1_plainCount_X1 hown hG.1 hP 0 rfl rfl 0 (by decide) (hts _ mX1_plainCount_0) (fun _ h9 => h9) rfl dX1_plainCount_9 ?_
      refine lv_iload_n hx hb dX1_plainCount_12 rfl (lv_at hl 1 rfl) ?_
      obtain ⟨hin, hf⟩ := gI_use hf
      refine va_iald hx hb hG.1 hP 1 0 rfl rfl hin dX1_plainCount_13 ?_
      refine lv_iload_n hx hb dX1_plainCount_14 rfl (lv_at hl 1 rfl) ?_
      refine lv_icmp_ne (tgt := 24) hx hb dX1_plainCount_15 (by decide) (fun hc => ?_) (fun hc => ?_)
      · have hf := if_f hc hf
        refine lv_iload_n hx hb dX1_plainCount_24 rfl (lv_at hl 1 rfl) ?_
        cases hf
        exact rt_i C hP hD hS dX1_plainCount_25
      · have hf := if_t hc hf
        obtain ⟨y2, ey2⟩ : ∃ z : Int32, z = x1 + (-1 : Int32) := ⟨_, rfl⟩
        have hf := nm_use ey2 hf
        refine lv_iinc (v := y2) (lv' := [(1, .int y2), (0, .ref q0)]) hx hb dX1_plainCount_18 hl (k := 1) rfl (by rw [ey2]; rfl) (by decide) rfl (fun ls hl => ?_)
        refine lv_goto (tgt := 3) hx hb dX1_plainCount_21 (by decide) ?_
        exact ih y2 _ _ ls hf hP hD hS (lv_sub hl [1, 0] rfl)
set_option maxHeartbeats 4000000 in
set_option maxRecDepth 100000 in
theorem tX1_plainCount (l : Launch) (G : GX) (q0 : Nat) (q0_row : Nat) (k0_row : Nat → Int32) (res : Int32) (hf : fX1_plainCount k0_row = some res) : Ct l yX1_plainCount wsX1_plainCount rmX1_plainCount G [.ref q0] (wdX1_plainCount G q0 q0_row k0_row) (wdX1_plainCount G q0 q0_row k0_row) (some (.int res)) := by
  refine Ct.of (cc := cX1_plainCount) (nL := 2) (ret := (some .int)) (by decide) rfl (Nat.le_of_ble_eq_true rfl) rfl ?_
  intro p e s m below meth c A ls C hP hD hl
  obtain ⟨hx, hb, hml, hown, hts, hr, hlocks, hA, hG⟩ := id C
  have hS : va_S A s.heap s.heap [] := va_S.rf
  unfold fX1_plainCount at hf
  refine lv_bipush (v := (9 : Int32)) hx hb dX1_plainCount_0 (by decide) ?_
  refine lv_istore_n (lv' := [(1, .int (9 : Int32)), (0, .ref q0)]) hx hb dX1_plainCount_2 rfl hl (by decide) rfl (fun ls hl => ?_)
  exact wX1_plainCount_3 C q0 q0_row k0_row res fu (9 : Int32) _ _ ls hf hP hD hS (lv_sub hl [1, 0] rfl)
abbrev wdX1_plainNumber (G : GX) (q0 : Nat) (q0_row : Nat) (k0_row : Nat → Int32) : va_W := [(q0, .inr (1, [.ref q0_row])), (q0_row, .inl (G.2.1, 10, .inl k0_row))]
abbrev rmX1_plainNumber : Room := { frames := 1, cells := 0, slots := 0, locals := 21 }
abbrev glX1_plainNumber (p : Program) (l : Launch) (e : Env) (s : State) (m : MethodId) (args : Array Value) (below : List Frame) (meth : Method) (c : Code) (G : GX) (A : Nat → Prop) (q0 : Nat) (q0_row : Nat) (k0_row : Nat → Int32) (res : Int32) (H : Heap) (locs : List Loc) (pc : Nat) (ls : Array Slot) (st : List Value) : Prop := W p l e rmX1_plainNumber s m args below meth c H locs 0 0 (MQ below (ctQ G A (wdX1_plainNumber G q0 q0_row k0_row) (some (.int res))) args s 0 0 A) (F0 m pc ls st)
set_option maxRecDepth 20000 in
theorem mX1_plainNumber_0 : Cond.fieldLink RX1 9 "SchubertDesk$Digits" "row" "[I" ∈ wsX1_plainNumber := by decide +kernel
set_option maxRecDepth 20000 in
theorem nX1_plainNumber_X1 : ∀ w ∈ u_ws RX1 TX1 1, w ∈ wsX1_plainNumber := by decide +kernel
set_option maxHeartbeats 4000000 in
set_option maxRecDepth 100000 in
theorem wX1_plainNumber_9 {p : Program} {l : Launch} {e : Env} {s : State} {m : MethodId} {args : Array Value} {below : List Frame} {meth : Method} {c : Code} {G : GX} {A : Nat → Prop} (C : Cx p s m args meth c cX1_plainNumber 4 (some .int) wsX1_plainNumber RX1 G A) (q0 : Nat) (q0_row : Nat) (k0_row : Nat → Int32) (res : Int32) (n : Nat) : ∀ (x1 : Int32) (x2 : Int32) (x3 : Int32) (H : Heap) (locs : List Loc) (ls : Array Slot), fX1_plainNumber_L9 k0_row n x1 x2 x3 = some res → va_P G.1 vwCl (wdX1_plainNumber G q0 q0_row k0_row) H → va_D A (wdX1_plainNumber G q0 q0_row k0_row) → va_S A s.heap H locs → lv_has ls 4 [(0, .ref q0), (1, .int x1), (2, .int x2), (3, .int x3)] → glX1_plainNumber p l e s m args below meth c G A q0 q0_row k0_row res H locs 9 ls [] := by
  obtain ⟨hx, hb, hml, hown, hts, hr, hlocks, hA, hG⟩ := id C
  induction n with
  | zero => intro x1 x2 x3 H locs ls hf hP hD hS hl; cases hf
  | succ n ih =>
    intro x1 x2 x3 H locs ls hf hP hD hS hl
    simp only [fX1_plainNumber_L9] at hf
    refine lv_iload_n hx hb dX1_plainNumber_9 rfl (lv_at hl 3 rfl) ?_
    refine lv_iload_n hx hb dX1_plainNumber_10 rfl (lv_at hl 1 rfl) ?_
    refine lv_icmp_gt (tgt := 38) hx hb dX1_plainNumber_11 (by decide) (fun hc => ?_) (fun hc => ?_)
    · have hf := if_t hc hf
      refine lv_iload_n hx hb dX1_plainNumber_38 rfl (lv_at hl 2 rfl) ?_
      cases hf
      exact rt_i C hP hD hS dX1_plainNumber_39
    · have hf := if_f hc hf
      refine lv_iload_n hx hb dX1_plainNumber_14 rfl (lv_at hl 3 rfl) ?_
      refine lv_bipush (v := (9 : Int32)) hx hb dX1_plainNumber_15 (by decide) ?_
      refine lv_icmp_gt (tgt := 38) hx hb dX1_plainNumber_17 (by decide) (fun hc => ?_) (fun hc => ?_)
      · have hf := if_t hc hf
        refine lv_iload_n hx hb dX1_plainNumber_38 rfl (lv_at hl 2 rfl) ?_
        cases hf
        exact rt_i C hP hD hS dX1_plainNumber_39
      · have hf := if_f hc hf
        refine lv_iload_n hx hb dX1_plainNumber_20 rfl (lv_at hl 2 rfl) ?_
        refine lv_bipush (v := (10 : Int32)) hx hb dX1_plainNumber_21 (by decide) ?_
        refine lv_imul hx hb dX1_plainNumber_23 ?_
        refine lv_aload_n hx hb dX1_plainNumber_24 rfl (lv_at hl 0 rfl) ?_
        refine va_get (D := G.1) (ci := 1) (v := .ref q0_row) (C := RX1) (T := TX1) (N := 1) hx hb hts nX1_plainNumber_X1 hown hG.1 hP 0 rfl rfl 0 (by decide) (hts _ mX1_plainNumber_0) (fun _ h9 => h9) rfl dX1_plainNumber_25 ?_
        refine lv_iload_n hx hb dX1_plainNumber_28 rfl (lv_at hl 3 rfl) ?_
        obtain ⟨hin, hf⟩ := gI_use hf
        refine va_iald hx hb hG.1 hP 1 0 rfl rfl hin dX1_plainNumber_29 ?_
        refine lv_iadd hx hb dX1_plainNumber_30 ?_
        refine lv_topi (fun y2 ey2 => ?_)
        have hf := nm_use ey2 hf
        refine lv_istore_n (lv' := [(2, .int y2), (0, .ref q0), (1, .int x1), (3, .int x3)]) hx hb dX1_plainNumber_31 rfl hl (by decide) rfl (fun ls hl => ?_)
        obtain ⟨y3, ey3⟩ : ∃ z : Int32, z = x3 + (1 : Int32) := ⟨_, rfl⟩
        have hf := nm_use ey3 hf
        refine lv_iinc (v := y3) (lv' := [(3, .int y3), (2, .int y2), (0, .ref q0), (1, .int x1)]) hx hb dX1_plainNumber_32 hl (k := 3) rfl (by rw [ey3]; rfl) (by decide) rfl (fun ls hl => ?_)
        refine lv_goto (tgt := 9) hx hb dX1_plainNumber_35 (by decide) ?_
        exact ih x1 y2 y3 _ _ ls hf hP hD hS (lv_sub hl [2, 3, 1, 0] rfl)
set_option maxHeartbeats 4000000 in
set_option maxRecDepth 100000 in
theorem tX1_plainNumber (l : Launch) (G : GX) (q0 : Nat) (q0_row : Nat) (k0_row : Nat → Int32) (res : Int32) (hf : fX1_plainNumber k0_row = some res) : Ct l yX1_plainNumber wsX1_plainNumber rmX1_plainNumber G [.ref q0] (wdX1_plainNumber G q0 q0_row k0_row) (wdX1_plainNumber G q0 q0_row k0_row) (some (.int res)) := by
  refine Ct.of (cc := cX1_plainNumber) (nL := 4) (ret := (some .int)) (by decide) rfl (Nat.le_of_ble_eq_true rfl) rfl ?_
  intro p e s m below meth c A ls C hP hD hl
  obtain ⟨hx, hb, hml, hown, hts, hr, hlocks, hA, hG⟩ := id C
  have hS : va_S A s.heap s.heap [] := va_S.rf
  unfold fX1_plainNumber at hf
  refine lv_aload_n hx hb dX1_plainNumber_0 rfl (lv_at hl 0 rfl) ?_
  obtain ⟨r4, hr4, hf⟩ := bd_use hf
  refine cl_V (wn := (wdX1_plainNumber G q0 q0_row k0_row)) (st1 := [.int r4]) C hP hD hS (tX1_plainCount l G q0 q0_row k0_row r4 hr4) (cwV 0 hts gX1_plainNumber_X1_plainCount rfl rfl rfl (by decide +kernel) ⟨Nat.le_of_ble_eq_true rfl, Nat.le_of_ble_eq_true rfl⟩) [0, 1] [] [0, 1] rfl rfl rfl rfl (by decide) rfl rfl (ci := 1) (q0 := 0) rfl rfl rfl rfl hl.1 rfl rfl (Nat.le_of_ble_eq_true rfl) dX1_plainNumber_1 (fun H locs hP hD hS => ?_)
  refine lv_istore_n (lv' := [(1, .int r4), (0, .ref q0)]) hx hb dX1_plainNumber_4 rfl hl (by decide) rfl (fun ls hl => ?_)
  refine lv_iconst (v := (0 : Int32)) hx hb dX1_plainNumber_5 (by decide) ?_
  refine lv_istore_n (lv' := [(2, .int (0 : Int32)), (1, .int r4), (0, .ref q0)]) hx hb dX1_plainNumber_6 rfl hl (by decide) rfl (fun ls hl => ?_)
  refine lv_iconst (v := (1 : Int32)) hx hb dX1_plainNumber_7 (by decide) ?_
  refine lv_istore_n (lv' := [(3, .int (1 : Int32)), (2, .int (0 : Int32)), (1, .int r4), (0, .ref q0)]) hx hb dX1_plainNumber_8 rfl hl (by decide) rfl (fun ls hl => ?_)
  exact wX1_plainNumber_9 C q0 q0_row k0_row res fu r4 (0 : Int32) (1 : Int32) _ _ ls hf hP hD hS (lv_sub hl [3, 2, 1, 0] rfl)
abbrev wdX1_isSmall (G : GX) (q0 : Nat) (q0_row : Nat) (k0_row : Nat → Int32) : va_W := [(q0, .inr (1, [.ref q0_row])), (q0_row, .inl (G.2.1, 10, .inl k0_row))]
abbrev rmX1_isSmall : Room := { frames := 1, cells := 0, slots := 0, locals := 21 }
abbrev glX1_isSmall (p : Program) (l : Launch) (e : Env) (s : State) (m : MethodId) (args : Array Value) (below : List Frame) (meth : Method) (c : Code) (G : GX) (A : Nat → Prop) (q0 : Nat) (q0_row : Nat) (k0_row : Nat → Int32) (res : Int32) (H : Heap) (locs : List Loc) (pc : Nat) (ls : Array Slot) (st : List Value) : Prop := W p l e rmX1_isSmall s m args below meth c H locs 0 0 (MQ below (ctQ G A (wdX1_isSmall G q0 q0_row k0_row) (some (.int res))) args s 0 0 A) (F0 m pc ls st)
set_option maxHeartbeats 4000000 in
set_option maxRecDepth 100000 in
theorem tX1_isSmall (l : Launch) (G : GX) (q0 : Nat) (q0_row : Nat) (k0_row : Nat → Int32) (res : Int32) (hf : fX1_isSmall k0_row = some res) : Ct l yX1_isSmall wsX1_isSmall rmX1_isSmall G [.ref q0] (wdX1_isSmall G q0 q0_row k0_row) (wdX1_isSmall G q0 q0_row k0_row) (some (.int res)) := by
  refine Ct.of (cc := cX1_isSmall) (nL := 1) (ret := (some .boolean)) (by decide) rfl (Nat.le_of_ble_eq_true rfl) rfl ?_
  intro p e s m below meth c A ls C hP hD hl
  obtain ⟨hx, hb, hml, hown, hts, hr, hlocks, hA, hG⟩ := id C
  have hS : va_S A s.heap s.heap [] := va_S.rf
  unfold fX1_isSmall at hf
  refine lv_aload_n hx hb dX1_isSmall_0 rfl (lv_at hl 0 rfl) ?_
  obtain ⟨r1, hr1, hf⟩ := bd_use hf
  refine cl_V (wn := (wdX1_isSmall G q0 q0_row k0_row)) (st1 := [.int r1]) C hP hD hS (tX1_plainCount l G q0 q0_row k0_row r1 hr1) (cwV 0 hts gX1_isSmall_X1_plainCount rfl rfl rfl (by decide +kernel) ⟨Nat.le_of_ble_eq_true rfl, Nat.le_of_ble_eq_true rfl⟩) [0, 1] [] [0, 1] rfl rfl rfl rfl (by decide) rfl rfl (ci := 1) (q0 := 0) rfl rfl rfl rfl hl.1 rfl rfl (Nat.le_of_ble_eq_true rfl) dX1_isSmall_1 (fun H locs hP hD hS => ?_)
  refine lv_iconst (v := (5 : Int32)) hx hb dX1_isSmall_4 (by decide) ?_
  refine lv_icmp_gt (tgt := 12) hx hb dX1_isSmall_5 (by decide) (fun hc => ?_) (fun hc => ?_)
  · have hf := if_t hc hf
    refine lv_iconst (v := (0 : Int32)) hx hb dX1_isSmall_12 (by decide) ?_
    cases hf
    exact rt_z C (Or.inl rfl) hP hD hS dX1_isSmall_13
  · have hf := if_f hc hf
    refine lv_iconst (v := (1 : Int32)) hx hb dX1_isSmall_8 (by decide) ?_
    refine lv_goto (tgt := 13) hx hb dX1_isSmall_9 (by decide) ?_
    cases hf
    exact rt_z C (Or.inr rfl) hP hD hS dX1_isSmall_13
abbrev wdX1_codeAt (G : GX) (q0 : Nat) (q0_row : Nat) (k0_row : Nat → Int32) : va_W := [(q0, .inr (1, [.ref q0_row])), (q0_row, .inl (G.2.1, 10, .inl k0_row))]
abbrev rmX1_codeAt : Room := { frames := 1, cells := 0, slots := 0, locals := 21 }
abbrev glX1_codeAt (p : Program) (l : Launch) (e : Env) (s : State) (m : MethodId) (args : Array Value) (below : List Frame) (meth : Method) (c : Code) (G : GX) (A : Nat → Prop) (q0 : Nat) (q0_row : Nat) (k0_row : Nat → Int32) (res : Int32) (H : Heap) (locs : List Loc) (pc : Nat) (ls : Array Slot) (st : List Value) : Prop := W p l e rmX1_codeAt s m args below meth c H locs 0 0 (MQ below (ctQ G A (wdX1_codeAt G q0 q0_row k0_row) (some (.int res))) args s 0 0 A) (F0 m pc ls st)
set_option maxHeartbeats 4000000 in
set_option maxRecDepth 100000 in
theorem wX1_codeAt_6 {p : Program} {l : Launch} {e : Env} {s : State} {m : MethodId} {args : Array Value} {below : List Frame} {meth : Method} {c : Code} {G : GX} {A : Nat → Prop} (C : Cx p s m args meth c cX1_codeAt 4 (some .int) wsX1_codeAt RX1 G A) (q0 : Nat) (q0_row : Nat) (k0_row : Nat → Int32) (p1 : Int32) (res : Int32) (n : Nat) : ∀ (x2 : Int32) (x3 : Int32) (H : Heap) (locs : List Loc) (ls : Array Slot), fX1_codeAt_L6 k0_row p1 n x2 x3 = some res → va_P G.1 vwCl (wdX1_codeAt G q0 q0_row k0_row) H → va_D A (wdX1_codeAt G q0 q0_row k0_row) → va_S A s.heap H locs → lv_has ls 4 [(0, .ref q0), (1, .int p1), (2, .int x2), (3, .int x3)] → glX1_codeAt p l e s m args below meth c G A q0 q0_row k0_row res H locs 6 ls [] := by
  obtain ⟨hx, hb, hml, hown, hts, hr, hlocks, hA, hG⟩ := id C
  induction n with
  | zero => intro x2 x3 H locs ls hf hP hD hS hl; cases hf
  | succ n ih =>
    intro x2 x3 H locs ls hf hP hD hS hl
    simp only [fX1_codeAt_L6] at hf
    refine lv_iload_n hx hb dX1_codeAt_6 rfl (lv_at hl 3 rfl) ?_
    refine lv_bipush (v := (9 : Int32)) hx hb dX1_codeAt_7 (by decide) ?_
    refine lv_icmp_gt (tgt := 34) hx hb dX1_codeAt_9 (by decide) (fun hc => ?_) (fun hc => ?_)
    · have hf := if_t hc hf
      refine lv_iload_n hx hb dX1_codeAt_34 rfl (lv_at hl 2 rfl) ?_
      cases hf
      exact rt_i C hP hD hS dX1_codeAt_35
    · have hf := if_f hc hf
      refine lv_aload_n hx hb dX1_codeAt_12 rfl (lv_at hl 0 rfl) ?_
      refine lv_iload_n hx hb dX1_codeAt_13 rfl (lv_at hl 3 rfl) ?_
      obtain ⟨r1, hr1, hf⟩ := bd_use hf
      refine cl_V (wn := (wdX1_codeAt G q0 q0_row k0_row)) (st1 := [.int r1]) C hP hD hS (tX1_digit l G q0 q0_row k0_row x3 r1 hr1) (cwV 1 hts gX1_codeAt_X1_digit rfl rfl rfl (by decide +kernel) ⟨Nat.le_of_ble_eq_true rfl, Nat.le_of_ble_eq_true rfl⟩) [0, 1] [] [0, 1] rfl rfl rfl rfl (by decide) rfl rfl (ci := 1) (q0 := 0) rfl rfl rfl rfl hl.1 rfl rfl (Nat.le_of_ble_eq_true rfl) dX1_codeAt_14 (fun H locs hP hD hS => ?_)
      refine lv_aload_n hx hb dX1_codeAt_17 rfl (lv_at hl 0 rfl) ?_
      refine lv_iload_n hx hb dX1_codeAt_18 rfl (lv_at hl 1 rfl) ?_
      obtain ⟨r2, hr2, hf⟩ := bd_use hf
      refine cl_V (wn := (wdX1_codeAt G q0 q0_row k0_row)) (st1 := [.int r2, .int r1]) C hP hD hS (tX1_digit l G q0 q0_row k0_row p1 r2 hr2) (cwV 1 hts gX1_codeAt_X1_digit rfl rfl rfl (by decide +kernel) ⟨Nat.le_of_ble_eq_true rfl, Nat.le_of_ble_eq_true rfl⟩) [0, 1] [] [0, 1] rfl rfl rfl rfl (by decide) rfl rfl (ci := 1) (q0 := 0) rfl rfl rfl rfl hl.1 rfl rfl (Nat.le_of_ble_eq_true rfl) dX1_codeAt_19 (fun H locs hP hD hS => ?_)
      refine lv_icmp_ge (tgt := 28) hx hb dX1_codeAt_22 (by decide) (fun hc => ?_) (fun hc => ?_)
      · have hf := if_t hc hf
        obtain ⟨y3, ey3⟩ : ∃ z : Int32, z = x3 + (1 : Int32) := ⟨_, rfl⟩
        have hf := nm_use ey3 hf
        refine lv_iinc (v := y3) (lv' := [(3, .int y3), (0, .ref q0), (1, .int p1), (2, .int x2)]) hx hb dX1_codeAt_28 hl (k := 3) rfl (by rw [ey3]; rfl) (by decide) rfl (fun ls hl => ?_)
        refine lv_goto (tgt := 6) hx hb dX1_codeAt_31 (by decide) ?_
        exact ih x2 y3 _ _ ls hf hP hD hS (lv_sub hl [1, 2, 3, 0] rfl)
      · have hf := if_f hc hf
        obtain ⟨y4, ey4⟩ : ∃ z : Int32, z = x2 + (1 : Int32) := ⟨_, rfl⟩
        have hf := nm_use ey4 hf
        refine lv_iinc (v := y4) (lv' := [(2, .int y4), (0, .ref q0), (1, .int p1), (3, .int x3)]) hx hb dX1_codeAt_25 hl (k := 2) rfl (by rw [ey4]; rfl) (by decide) rfl (fun ls hl => ?_)
        obtain ⟨y5, ey5⟩ : ∃ z : Int32, z = x3 + (1 : Int32) := ⟨_, rfl⟩
        have hf := nm_use ey5 hf
        refine lv_iinc (v := y5) (lv' := [(3, .int y5), (2, .int y4), (0, .ref q0), (1, .int p1)]) hx hb dX1_codeAt_28 hl (k := 3) rfl (by rw [ey5]; rfl) (by decide) rfl (fun ls hl => ?_)
        refine lv_goto (tgt := 6) hx hb dX1_codeAt_31 (by decide) ?_
        exact ih y4 y5 _ _ ls hf hP hD hS (lv_sub hl [2, 3, 1, 0] rfl)
set_option maxHeartbeats 4000000 in
set_option maxRecDepth 100000 in
theorem tX1_codeAt (l : Launch) (G : GX) (q0 : Nat) (q0_row : Nat) (k0_row : Nat → Int32) (p1 : Int32) (res : Int32) (hf : fX1_codeAt k0_row p1 = some res) : Ct l yX1_codeAt wsX1_codeAt rmX1_codeAt G [.ref q0, .int p1] (wdX1_codeAt G q0 q0_row k0_row) (wdX1_codeAt G q0 q0_row k0_row) (some (.int res)) := by
  refine Ct.of (cc := cX1_codeAt) (nL := 4) (ret := (some .int)) (by decide) rfl (Nat.le_of_ble_eq_true rfl) rfl ?_
  intro p e s m below meth c A ls C hP hD hl
  obtain ⟨hx, hb, hml, hown, hts, hr, hlocks, hA, hG⟩ := id C
  have hS : va_S A s.heap s.heap [] := va_S.rf
  unfold fX1_codeAt at hf
  refine lv_iconst (v := (0 : Int32)) hx hb dX1_codeAt_0 (by decide) ?_
  refine lv_istore_n (lv' := [(2, .int (0 : Int32)), (0, .ref q0), (1, .int p1)]) hx hb dX1_codeAt_1 rfl hl (by decide) rfl (fun ls hl => ?_)
  refine lv_iload_n hx hb dX1_codeAt_2 rfl (lv_at hl 2 rfl) ?_
  refine lv_iconst (v := (1 : Int32)) hx hb dX1_codeAt_3 (by decide) ?_
  refine lv_iadd hx hb dX1_codeAt_4 ?_
  refine lv_topi (fun y6 ey6 => ?_)
  have hf := nm_use ey6 hf
  refine lv_istore_n (lv' := [(3, .int y6), (2, .int (0 : Int32)), (0, .ref q0), (1, .int p1)]) hx hb dX1_codeAt_5 rfl hl (by decide) rfl (fun ls hl => ?_)
  exact wX1_codeAt_6 C q0 q0_row k0_row p1 res fu (0 : Int32) y6 _ _ ls hf hP hD hS (lv_sub hl [2, 3, 1, 0] rfl)
abbrev wdX1_inversions (G : GX) (q0 : Nat) (q0_row : Nat) (k0_row : Nat → Int32) : va_W := [(q0, .inr (1, [.ref q0_row])), (q0_row, .inl (G.2.1, 10, .inl k0_row))]
abbrev rmX1_inversions : Room := { frames := 2, cells := 0, slots := 0, locals := 44 }
abbrev glX1_inversions (p : Program) (l : Launch) (e : Env) (s : State) (m : MethodId) (args : Array Value) (below : List Frame) (meth : Method) (c : Code) (G : GX) (A : Nat → Prop) (q0 : Nat) (q0_row : Nat) (k0_row : Nat → Int32) (res : Int32) (H : Heap) (locs : List Loc) (pc : Nat) (ls : Array Slot) (st : List Value) : Prop := W p l e rmX1_inversions s m args below meth c H locs 0 0 (MQ below (ctQ G A (wdX1_inversions G q0 q0_row k0_row) (some (.int res))) args s 0 0 A) (F0 m pc ls st)
set_option maxHeartbeats 4000000 in
set_option maxRecDepth 100000 in
theorem wX1_inversions_4 {p : Program} {l : Launch} {e : Env} {s : State} {m : MethodId} {args : Array Value} {below : List Frame} {meth : Method} {c : Code} {G : GX} {A : Nat → Prop} (C : Cx p s m args meth c cX1_inversions 3 (some .int) wsX1_inversions RX1 G A) (q0 : Nat) (q0_row : Nat) (k0_row : Nat → Int32) (res : Int32) (n : Nat) : ∀ (x1 : Int32) (x2 : Int32) (H : Heap) (locs : List Loc) (ls : Array Slot), fX1_inversions_L4 k0_row n x1 x2 = some res → va_P G.1 vwCl (wdX1_inversions G q0 q0_row k0_row) H → va_D A (wdX1_inversions G q0 q0_row k0_row) → va_S A s.heap H locs → lv_has ls 3 [(0, .ref q0), (1, .int x1), (2, .int x2)] → glX1_inversions p l e s m args below meth c G A q0 q0_row k0_row res H locs 4 ls [] := by
  obtain ⟨hx, hb, hml, hown, hts, hr, hlocks, hA, hG⟩ := id C
  induction n with
  | zero => intro x1 x2 H locs ls hf hP hD hS hl; cases hf
  | succ n ih =>
    intro x1 x2 H locs ls hf hP hD hS hl
    simp only [fX1_inversions_L4] at hf
    refine lv_iload_n hx hb dX1_inversions_4 rfl (lv_at hl 2 rfl) ?_
    refine lv_bipush (v := (9 : Int32)) hx hb dX1_inversions_5 (by decide) ?_
    refine lv_icmp_ge (tgt := 24) hx hb dX1_inversions_7 (by decide) (fun hc => ?_) (fun hc => ?_)
    · have hf := if_t hc hf
      refine lv_iload_n hx hb dX1_inversions_24 rfl (lv_at hl 1 rfl) ?_
      cases hf
      exact rt_i C hP hD hS dX1_inversions_25
    · have hf := if_f hc hf
      refine lv_iload_n hx hb dX1_inversions_10 rfl (lv_at hl 1 rfl) ?_
      refine lv_aload_n hx hb dX1_inversions_11 rfl (lv_at hl 0 rfl) ?_
      refine lv_iload_n hx hb dX1_inversions_12 rfl (lv_at hl 2 rfl) ?_
      obtain ⟨r1, hr1, hf⟩ := bd_use hf
      refine cl_V (wn := (wdX1_inversions G q0 q0_row k0_row)) (st1 := [.int r1, .int x1]) C hP hD hS (tX1_codeAt l G q0 q0_row k0_row x2 r1 hr1) (cwV 1 hts gX1_inversions_X1_codeAt rfl rfl rfl (by decide +kernel) ⟨Nat.le_of_ble_eq_true rfl, Nat.le_of_ble_eq_true rfl⟩) [0, 1] [] [0, 1] rfl rfl rfl rfl (by decide) rfl rfl (ci := 1) (q0 := 0) rfl rfl rfl rfl hl.1 rfl rfl (Nat.le_of_ble_eq_true rfl) dX1_inversions_13 (fun H locs hP hD hS => ?_)
      refine lv_iadd hx hb dX1_inversions_16 ?_
      refine lv_topi (fun y2 ey2 => ?_)
      have hf := nm_use ey2 hf
      refine lv_istore_n (lv' := [(1, .int y2), (0, .ref q0), (2, .int x2)]) hx hb dX1_inversions_17 rfl hl (by decide) rfl (fun ls hl => ?_)
      obtain ⟨y3, ey3⟩ : ∃ z : Int32, z = x2 + (1 : Int32) := ⟨_, rfl⟩
      have hf := nm_use ey3 hf
      refine lv_iinc (v := y3) (lv' := [(2, .int y3), (1, .int y2), (0, .ref q0)]) hx hb dX1_inversions_18 hl (k := 2) rfl (by rw [ey3]; rfl) (by decide) rfl (fun ls hl => ?_)
      refine lv_goto (tgt := 4) hx hb dX1_inversions_21 (by decide) ?_
      exact ih y2 y3 _ _ ls hf hP hD hS (lv_sub hl [2, 1, 0] rfl)
set_option maxHeartbeats 4000000 in
set_option maxRecDepth 100000 in
theorem tX1_inversions (l : Launch) (G : GX) (q0 : Nat) (q0_row : Nat) (k0_row : Nat → Int32) (res : Int32) (hf : fX1_inversions k0_row = some res) : Ct l yX1_inversions wsX1_inversions rmX1_inversions G [.ref q0] (wdX1_inversions G q0 q0_row k0_row) (wdX1_inversions G q0 q0_row k0_row) (some (.int res)) := by
  refine Ct.of (cc := cX1_inversions) (nL := 3) (ret := (some .int)) (by decide) rfl (Nat.le_of_ble_eq_true rfl) rfl ?_
  intro p e s m below meth c A ls C hP hD hl
  obtain ⟨hx, hb, hml, hown, hts, hr, hlocks, hA, hG⟩ := id C
  have hS : va_S A s.heap s.heap [] := va_S.rf
  unfold fX1_inversions at hf
  refine lv_iconst (v := (0 : Int32)) hx hb dX1_inversions_0 (by decide) ?_
  refine lv_istore_n (lv' := [(1, .int (0 : Int32)), (0, .ref q0)]) hx hb dX1_inversions_1 rfl hl (by decide) rfl (fun ls hl => ?_)
  refine lv_iconst (v := (1 : Int32)) hx hb dX1_inversions_2 (by decide) ?_
  refine lv_istore_n (lv' := [(2, .int (1 : Int32)), (1, .int (0 : Int32)), (0, .ref q0)]) hx hb dX1_inversions_3 rfl hl (by decide) rfl (fun ls hl => ?_)
  exact wX1_inversions_4 C q0 q0_row k0_row res fu (0 : Int32) (1 : Int32) _ _ ls hf hP hD hS (lv_sub hl [2, 1, 0] rfl)
abbrev wdX5_isAnyNegative (G : GX) : va_W := []
abbrev rmX5_isAnyNegative : Room := { frames := 0, cells := 0, slots := 0, locals := 0 }
abbrev glX5_isAnyNegative (p : Program) (l : Launch) (e : Env) (s : State) (m : MethodId) (args : Array Value) (below : List Frame) (meth : Method) (c : Code) (G : GX) (A : Nat → Prop) (res : Int32) (H : Heap) (locs : List Loc) (pc : Nat) (ls : Array Slot) (st : List Value) : Prop := W p l e rmX5_isAnyNegative s m args below meth c H locs 0 0 (MQ below (ctQ G A (wdX5_isAnyNegative G) (some (.int res))) args s 0 0 A) (F0 m pc ls st)
set_option maxHeartbeats 4000000 in
set_option maxRecDepth 100000 in
theorem tX5_isAnyNegative (l : Launch) (G : GX) (p0 : Int32) (p1 : Int32) (p2 : Int32) (p3 : Int32) (res : Int32) (hf : fX5_isAnyNegative p0 p1 p2 p3 = some res) : Ct l yX5_isAnyNegative wsX5_isAnyNegative rmX5_isAnyNegative G [.int p0, .int p1, .int p2, .int p3] (wdX5_isAnyNegative G) (wdX5_isAnyNegative G) (some (.int res)) := by
  refine Ct.of (cc := cX5_isAnyNegative) (nL := 4) (ret := (some .boolean)) (by decide) rfl (Nat.le_of_ble_eq_true rfl) rfl ?_
  intro p e s m below meth c A ls C hP hD hl
  obtain ⟨hx, hb, hml, hown, hts, hr, hlocks, hA, hG⟩ := id C
  have hS : va_S A s.heap s.heap [] := va_S.rf
  unfold fX5_isAnyNegative at hf
  refine lv_iload_n hx hb dX5_isAnyNegative_0 rfl (lv_at hl 0 rfl) ?_
  refine lv_if_lt (tgt := 16) hx hb dX5_isAnyNegative_1 (by decide) (fun hc => ?_) (fun hc => ?_)
  · have hf := if_t hc hf
    refine lv_iconst (v := (1 : Int32)) hx hb dX5_isAnyNegative_16 (by decide) ?_
    refine lv_goto (tgt := 21) hx hb dX5_isAnyNegative_17 (by decide) ?_
    cases hf
    exact rt_z C (Or.inr rfl) hP hD hS dX5_isAnyNegative_21
  · have hf := if_f hc hf
    refine lv_iload_n hx hb dX5_isAnyNegative_4 rfl (lv_at hl 1 rfl) ?_
    refine lv_if_lt (tgt := 16) hx hb dX5_isAnyNegative_5 (by decide) (fun hc => ?_) (fun hc => ?_)
    · have hf := if_t hc hf
      refine lv_iconst (v := (1 : Int32)) hx hb dX5_isAnyNegative_16 (by decide) ?_
      refine lv_goto (tgt := 21) hx hb dX5_isAnyNegative_17 (by decide) ?_
      cases hf
      exact rt_z C (Or.inr rfl) hP hD hS dX5_isAnyNegative_21
    · have hf := if_f hc hf
      refine lv_iload_n hx hb dX5_isAnyNegative_8 rfl (lv_at hl 2 rfl) ?_
      refine lv_if_lt (tgt := 16) hx hb dX5_isAnyNegative_9 (by decide) (fun hc => ?_) (fun hc => ?_)
      · have hf := if_t hc hf
        refine lv_iconst (v := (1 : Int32)) hx hb dX5_isAnyNegative_16 (by decide) ?_
        refine lv_goto (tgt := 21) hx hb dX5_isAnyNegative_17 (by decide) ?_
        cases hf
        exact rt_z C (Or.inr rfl) hP hD hS dX5_isAnyNegative_21
      · have hf := if_f hc hf
        refine lv_iload_n hx hb dX5_isAnyNegative_12 rfl (lv_at hl 3 rfl) ?_
        refine lv_if_ge (tgt := 20) hx hb dX5_isAnyNegative_13 (by decide) (fun hc => ?_) (fun hc => ?_)
        · have hf := if_t hc hf
          refine lv_iconst (v := (0 : Int32)) hx hb dX5_isAnyNegative_20 (by decide) ?_
          cases hf
          exact rt_z C (Or.inl rfl) hP hD hS dX5_isAnyNegative_21
        · have hf := if_f hc hf
          refine lv_iconst (v := (1 : Int32)) hx hb dX5_isAnyNegative_16 (by decide) ?_
          refine lv_goto (tgt := 21) hx hb dX5_isAnyNegative_17 (by decide) ?_
          cases hf
          exact rt_z C (Or.inr rfl) hP hD hS dX5_isAnyNegative_21
abbrev wdX5_cellOf (G : GX) : va_W := []
abbrev rmX5_cellOf : Room := { frames := 1, cells := 0, slots := 0, locals := 23 }
abbrev glX5_cellOf (p : Program) (l : Launch) (e : Env) (s : State) (m : MethodId) (args : Array Value) (below : List Frame) (meth : Method) (c : Code) (G : GX) (A : Nat → Prop) (res : Int32) (H : Heap) (locs : List Loc) (pc : Nat) (ls : Array Slot) (st : List Value) : Prop := W p l e rmX5_cellOf s m args below meth c H locs 0 0 (MQ below (ctQ G A (wdX5_cellOf G) (some (.int res))) args s 0 0 A) (F0 m pc ls st)
set_option maxHeartbeats 4000000 in
set_option maxRecDepth 100000 in
theorem tX5_cellOf (l : Launch) (G : GX) (p0 : Int32) (p1 : Int32) (p2 : Int32) (p3 : Int32) (res : Int32) (hf : fX5_cellOf p0 p1 p2 p3 = some res) : Ct l yX5_cellOf wsX5_cellOf rmX5_cellOf G [.int p0, .int p1, .int p2, .int p3] (wdX5_cellOf G) (wdX5_cellOf G) (some (.int res)) := by
  refine Ct.of (cc := cX5_cellOf) (nL := 4) (ret := (some .int)) (by decide) rfl (Nat.le_of_ble_eq_true rfl) rfl ?_
  intro p e s m below meth c A ls C hP hD hl
  obtain ⟨hx, hb, hml, hown, hts, hr, hlocks, hA, hG⟩ := id C
  have hS : va_S A s.heap s.heap [] := va_S.rf
  unfold fX5_cellOf at hf
  refine lv_iload_n hx hb dX5_cellOf_0 rfl (lv_at hl 0 rfl) ?_
  refine lv_iload_n hx hb dX5_cellOf_1 rfl (lv_at hl 1 rfl) ?_
  refine lv_iload_n hx hb dX5_cellOf_2 rfl (lv_at hl 2 rfl) ?_
  refine lv_iload_n hx hb dX5_cellOf_3 rfl (lv_at hl 3 rfl) ?_
  obtain ⟨r1, hr1, hf⟩ := bd_use hf
  refine cl_S (wn := (wdX5_cellOf G)) (st1 := [.int r1]) C hP hD hS (tX5_isAnyNegative l G p0 p1 p2 p3 r1 hr1) (va_cwS 4 hts gX5_cellOf_X5_isAnyNegative rfl rfl rfl (by decide +kernel) ⟨Nat.le_of_ble_eq_true rfl, Nat.le_of_ble_eq_true rfl⟩) [] [] [] rfl rfl rfl rfl (by decide) rfl rfl rfl hl.1 rfl rfl (Nat.le_of_ble_eq_true rfl) dX5_cellOf_4 (fun H locs hP hD hS => ?_)
  refine lv_if_ne (tgt := 33) hx hb dX5_cellOf_7 (by decide) (fun hc => ?_) (fun hc => ?_)
  · have hf := if_f hc hf
    refine lv_iconst (v := (-1 : Int32)) hx hb dX5_cellOf_33 (by decide) ?_
    cases hf
    exact rt_i C hP hD hS dX5_cellOf_34
  · have hf := if_t hc hf
    refine lv_iload_n hx hb dX5_cellOf_10 rfl (lv_at hl 0 rfl) ?_
    refine lv_bipush (v := (8 : Int32)) hx hb dX5_cellOf_11 (by decide) ?_
    refine lv_icmp_gt (tgt := 33) hx hb dX5_cellOf_13 (by decide) (fun hc => ?_) (fun hc => ?_)
    · have hf := if_t hc hf
      refine lv_iconst (v := (-1 : Int32)) hx hb dX5_cellOf_33 (by decide) ?_
      cases hf
      exact rt_i C hP hD hS dX5_cellOf_34
    · have hf := if_f hc hf
      refine lv_iload_n hx hb dX5_cellOf_16 rfl (lv_at hl 1 rfl) ?_
      refine lv_bipush (v := (7 : Int32)) hx hb dX5_cellOf_17 (by decide) ?_
      refine lv_icmp_gt (tgt := 33) hx hb dX5_cellOf_19 (by decide) (fun hc => ?_) (fun hc => ?_)
      · have hf := if_t hc hf
        refine lv_iconst (v := (-1 : Int32)) hx hb dX5_cellOf_33 (by decide) ?_
        cases hf
        exact rt_i C hP hD hS dX5_cellOf_34
      · have hf := if_f hc hf
        refine lv_iload_n hx hb dX5_cellOf_22 rfl (lv_at hl 2 rfl) ?_
        refine lv_bipush (v := (6 : Int32)) hx hb dX5_cellOf_23 (by decide) ?_
        refine lv_icmp_gt (tgt := 33) hx hb dX5_cellOf_25 (by decide) (fun hc => ?_) (fun hc => ?_)
        · have hf := if_t hc hf
          refine lv_iconst (v := (-1 : Int32)) hx hb dX5_cellOf_33 (by decide) ?_
          cases hf
          exact rt_i C hP hD hS dX5_cellOf_34
        · have hf := if_f hc hf
          refine lv_iload_n hx hb dX5_cellOf_28 rfl (lv_at hl 3 rfl) ?_
          refine lv_iconst (v := (5 : Int32)) hx hb dX5_cellOf_29 (by decide) ?_
          refine lv_icmp_le (tgt := 35) hx hb dX5_cellOf_30 (by decide) (fun hc => ?_) (fun hc => ?_)
          · have hf := if_t hc hf
            refine lv_iload_n hx hb dX5_cellOf_35 rfl (lv_at hl 0 rfl) ?_
            refine lv_bipush (v := (9 : Int32)) hx hb dX5_cellOf_36 (by decide) ?_
            refine lv_iload_n hx hb dX5_cellOf_38 rfl (lv_at hl 1 rfl) ?_
            refine lv_imul hx hb dX5_cellOf_39 ?_
            refine lv_iadd hx hb dX5_cellOf_40 ?_
            refine lv_bipush (v := (72 : Int32)) hx hb dX5_cellOf_41 (by decide) ?_
            refine lv_iload_n hx hb dX5_cellOf_43 rfl (lv_at hl 2 rfl) ?_
            refine lv_imul hx hb dX5_cellOf_44 ?_
            refine lv_iadd hx hb dX5_cellOf_45 ?_
            refine lv_sipush (v := (504 : Int32)) hx hb dX5_cellOf_46 (by decide) ?_
            refine lv_iload_n hx hb dX5_cellOf_49 rfl (lv_at hl 3 rfl) ?_
            refine lv_imul hx hb dX5_cellOf_50 ?_
            refine lv_iadd hx hb dX5_cellOf_51 ?_
            cases hf
            exact rt_i C hP hD hS dX5_cellOf_52
          · have hf := if_f hc hf
            refine lv_iconst (v := (-1 : Int32)) hx hb dX5_cellOf_33 (by decide) ?_
            cases hf
            exact rt_i C hP hD hS dX5_cellOf_34
abbrev wdX1_codeCell (G : GX) (q0 : Nat) (q0_row : Nat) (k0_row : Nat → Int32) : va_W := [(q0, .inr (1, [.ref q0_row])), (q0_row, .inl (G.2.1, 10, .inl k0_row))]
abbrev rmX1_codeCell : Room := { frames := 2, cells := 0, slots := 0, locals := 46 }
abbrev glX1_codeCell (p : Program) (l : Launch) (e : Env) (s : State) (m : MethodId) (args : Array Value) (below : List Frame) (meth : Method) (c : Code) (G : GX) (A : Nat → Prop) (q0 : Nat) (q0_row : Nat) (k0_row : Nat → Int32) (res : Int32) (H : Heap) (locs : List Loc) (pc : Nat) (ls : Array Slot) (st : List Value) : Prop := W p l e rmX1_codeCell s m args below meth c H locs 0 0 (MQ below (ctQ G A (wdX1_codeCell G q0 q0_row k0_row) (some (.int res))) args s 0 0 A) (F0 m pc ls st)
set_option maxRecDepth 20000 in
theorem mX1_codeCell_0 : Cond.initialized RX5 ∈ wsX1_codeCell := by decide +kernel
set_option maxRecDepth 20000 in
theorem mX1_codeCell_1 : Cond.static yX5_cellOf ∈ wsX1_codeCell := by decide +kernel
set_option maxHeartbeats 4000000 in
set_option maxRecDepth 100000 in
theorem tX1_codeCell (l : Launch) (G : GX) (q0 : Nat) (q0_row : Nat) (k0_row : Nat → Int32) (res : Int32) (hf : fX1_codeCell k0_row = some res) : Ct l yX1_codeCell wsX1_codeCell rmX1_codeCell G [.ref q0] (wdX1_codeCell G q0 q0_row k0_row) (wdX1_codeCell G q0 q0_row k0_row) (some (.int res)) := by
  refine Ct.of (cc := cX1_codeCell) (nL := 1) (ret := (some .int)) (by decide) rfl (Nat.le_of_ble_eq_true rfl) rfl ?_
  intro p e s m below meth c A ls C hP hD hl
  obtain ⟨hx, hb, hml, hown, hts, hr, hlocks, hA, hG⟩ := id C
  have hS : va_S A s.heap s.heap [] := va_S.rf
  unfold fX1_codeCell at hf
  refine lv_aload_n hx hb dX1_codeCell_0 rfl (lv_at hl 0 rfl) ?_
  refine lv_iconst (v := (1 : Int32)) hx hb dX1_codeCell_1 (by decide) ?_
  obtain ⟨r1, hr1, hf⟩ := bd_use hf
  refine cl_V (wn := (wdX1_codeCell G q0 q0_row k0_row)) (st1 := [.int r1]) C hP hD hS (tX1_codeAt l G q0 q0_row k0_row (1 : Int32) r1 hr1) (cwV 1 hts gX1_codeCell_X1_codeAt rfl rfl rfl (by decide +kernel) ⟨Nat.le_of_ble_eq_true rfl, Nat.le_of_ble_eq_true rfl⟩) [0, 1] [] [0, 1] rfl rfl rfl rfl (by decide) rfl rfl (ci := 1) (q0 := 0) rfl rfl rfl rfl hl.1 rfl rfl (Nat.le_of_ble_eq_true rfl) dX1_codeCell_2 (fun H locs hP hD hS => ?_)
  refine lv_aload_n hx hb dX1_codeCell_5 rfl (lv_at hl 0 rfl) ?_
  refine lv_iconst (v := (2 : Int32)) hx hb dX1_codeCell_6 (by decide) ?_
  obtain ⟨r2, hr2, hf⟩ := bd_use hf
  refine cl_V (wn := (wdX1_codeCell G q0 q0_row k0_row)) (st1 := [.int r2, .int r1]) C hP hD hS (tX1_codeAt l G q0 q0_row k0_row (2 : Int32) r2 hr2) (cwV 1 hts gX1_codeCell_X1_codeAt rfl rfl rfl (by decide +kernel) ⟨Nat.le_of_ble_eq_true rfl, Nat.le_of_ble_eq_true rfl⟩) [0, 1] [] [0, 1] rfl rfl rfl rfl (by decide) rfl rfl (ci := 1) (q0 := 0) rfl rfl rfl rfl hl.1 rfl rfl (Nat.le_of_ble_eq_true rfl) dX1_codeCell_7 (fun H locs hP hD hS => ?_)
  refine lv_aload_n hx hb dX1_codeCell_10 rfl (lv_at hl 0 rfl) ?_
  refine lv_iconst (v := (3 : Int32)) hx hb dX1_codeCell_11 (by decide) ?_
  obtain ⟨r3, hr3, hf⟩ := bd_use hf
  refine cl_V (wn := (wdX1_codeCell G q0 q0_row k0_row)) (st1 := [.int r3, .int r2, .int r1]) C hP hD hS (tX1_codeAt l G q0 q0_row k0_row (3 : Int32) r3 hr3) (cwV 1 hts gX1_codeCell_X1_codeAt rfl rfl rfl (by decide +kernel) ⟨Nat.le_of_ble_eq_true rfl, Nat.le_of_ble_eq_true rfl⟩) [0, 1] [] [0, 1] rfl rfl rfl rfl (by decide) rfl rfl (ci := 1) (q0 := 0) rfl rfl rfl rfl hl.1 rfl rfl (Nat.le_of_ble_eq_true rfl) dX1_codeCell_12 (fun H locs hP hD hS => ?_)
  refine lv_aload_n hx hb dX1_codeCell_15 rfl (lv_at hl 0 rfl) ?_
  refine lv_iconst (v := (4 : Int32)) hx hb dX1_codeCell_16 (by decide) ?_
  obtain ⟨r4, hr4, hf⟩ := bd_use hf
  refine cl_V (wn := (wdX1_codeCell G q0 q0_row k0_row)) (st1 := [.int r4, .int r3, .int r2, .int r1]) C hP hD hS (tX1_codeAt l G q0 q0_row k0_row (4 : Int32) r4 hr4) (cwV 1 hts gX1_codeCell_X1_codeAt rfl rfl rfl (by decide +kernel) ⟨Nat.le_of_ble_eq_true rfl, Nat.le_of_ble_eq_true rfl⟩) [0, 1] [] [0, 1] rfl rfl rfl rfl (by decide) rfl rfl (ci := 1) (q0 := 0) rfl rfl rfl rfl hl.1 rfl rfl (Nat.le_of_ble_eq_true rfl) dX1_codeCell_17 (fun H locs hP hD hS => ?_)
  obtain ⟨r5, hr5, hf⟩ := bd_use hf
  refine cl_SN (host := RX5) (wn := (wdX1_codeCell G q0 q0_row k0_row)) (st1 := [.int r5]) C hP hD hS (tX5_cellOf l G r1 r2 r3 r4 r5 hr5) ⟨va_cnB 4 hts gX1_codeCell_X5_cellOf_n50 rfl rfl rfl (hG.2.1 (.methodLinkNest RX1 50 yX5_cellOf RX5) (by decide +kernel)) (hts _ mX1_codeCell_0) (by decide +kernel) ⟨Nat.le_of_ble_eq_true rfl, Nat.le_of_ble_eq_true rfl⟩, (hts _ mX1_codeCell_1), trivial⟩ [] [0, 1] [0, 1] rfl rfl rfl rfl (by decide) rfl rfl rfl hl.1 rfl rfl (Nat.le_of_ble_eq_true rfl) dX1_codeCell_20 (fun H locs hP hD hS => ?_)
  cases hf
  exact rt_i C hP hD hS dX1_codeCell_23
abbrev wdX1_descentSet (G : GX) (q0 : Nat) (q0_row : Nat) (k0_row : Nat → Int32) : va_W := [(q0, .inr (1, [.ref q0_row])), (q0_row, .inl (G.2.1, 10, .inl k0_row))]
abbrev rmX1_descentSet : Room := { frames := 0, cells := 0, slots := 0, locals := 0 }
abbrev glX1_descentSet (p : Program) (l : Launch) (e : Env) (s : State) (m : MethodId) (args : Array Value) (below : List Frame) (meth : Method) (c : Code) (G : GX) (A : Nat → Prop) (q0 : Nat) (q0_row : Nat) (k0_row : Nat → Int32) (res : Int32) (H : Heap) (locs : List Loc) (pc : Nat) (ls : Array Slot) (st : List Value) : Prop := W p l e rmX1_descentSet s m args below meth c H locs 0 0 (MQ below (ctQ G A (wdX1_descentSet G q0 q0_row k0_row) (some (.int res))) args s 0 0 A) (F0 m pc ls st)
set_option maxRecDepth 20000 in
theorem mX1_descentSet_0 : Cond.fieldLink RX1 9 "SchubertDesk$Digits" "row" "[I" ∈ wsX1_descentSet := by decide +kernel
set_option maxRecDepth 20000 in
theorem nX1_descentSet_X1 : ∀ w ∈ u_ws RX1 TX1 1, w ∈ wsX1_descentSet := by decide +kernel
set_option maxHeartbeats 4000000 in
set_option maxRecDepth 100000 in
theorem wX1_descentSet_4 {p : Program} {l : Launch} {e : Env} {s : State} {m : MethodId} {args : Array Value} {below : List Frame} {meth : Method} {c : Code} {G : GX} {A : Nat → Prop} (C : Cx p s m args meth c cX1_descentSet 3 (some .int) wsX1_descentSet RX1 G A) (q0 : Nat) (q0_row : Nat) (k0_row : Nat → Int32) (res : Int32) (n : Nat) : ∀ (x1 : Int32) (x2 : Int32) (H : Heap) (locs : List Loc) (ls : Array Slot), fX1_descentSet_L4 k0_row n x1 x2 = some res → va_P G.1 vwCl (wdX1_descentSet G q0 q0_row k0_row) H → va_D A (wdX1_descentSet G q0 q0_row k0_row) → va_S A s.heap H locs → lv_has ls 3 [(0, .ref q0), (1, .int x1), (2, .int x2)] → glX1_descentSet p l e s m args below meth c G A q0 q0_row k0_row res H locs 4 ls [] := by
  obtain ⟨hx, hb, hml, hown, hts, hr, hlocks, hA, hG⟩ := id C
  induction n with
  | zero => intro x1 x2 H locs ls hf hP hD hS hl; cases hf
  | succ n ih =>
    intro x1 x2 H locs ls hf hP hD hS hl
    simp only [fX1_descentSet_L4] at hf
    refine lv_iload_n hx hb dX1_descentSet_4 rfl (lv_at hl 2 rfl) ?_
    refine lv_bipush (v := (9 : Int32)) hx hb dX1_descentSet_5 (by decide) ?_
    refine lv_icmp_ge (tgt := 39) hx hb dX1_descentSet_7 (by decide) (fun hc => ?_) (fun hc => ?_)
    · have hf := if_t hc hf
      refine lv_iload_n hx hb dX1_descentSet_39 rfl (lv_at hl 1 rfl) ?_
      cases hf
      exact rt_i C hP hD hS dX1_descentSet_40
    · have hf := if_f hc hf
      refine lv_aload_n hx hb dX1_descentSet_10 rfl (lv_at hl 0 rfl) ?_
      refine va_get (D := G.1) (ci := 1) (v := .ref q0_row) (C := RX1) (T := TX1) (N := 1) hx hb hts nX1_descentSet_X1 hown hG.1 hP 0 rfl rfl 0 (by decide) (hts _ mX1_descentSet_0) (fun _ h9 => h9) rfl dX1_descentSet_11 ?_
      refine lv_iload_n hx hb dX1_descentSet_14 rfl (lv_at hl 2 rfl) ?_
      obtain ⟨hin, hf⟩ := gI_use hf
      refine va_iald hx hb hG.1 hP 1 0 rfl rfl hin dX1_descentSet_15 ?_
      refine lv_aload_n hx hb dX1_descentSet_16 rfl (lv_at hl 0 rfl) ?_
      refine va_get (D := G.1) (ci := 1) (v := .ref q0_row) (C := RX1) (T := TX1) (N := 1) hx hb hts nX1_descentSet_X1 hown hG.1 hP 0 rfl rfl 0 (by decide) (hts _ mX1_descentSet_0) (fun _ h9 => h9) rfl dX1_descentSet_17 ?_
      refine lv_iload_n hx hb dX1_descentSet_20 rfl (lv_at hl 2 rfl) ?_
      refine lv_iconst (v := (1 : Int32)) hx hb dX1_descentSet_21 (by decide) ?_
      refine lv_iadd hx hb dX1_descentSet_22 ?_
      obtain ⟨hin, hf⟩ := gI_use hf
      refine va_iald hx hb hG.1 hP 1 0 rfl rfl hin dX1_descentSet_23 ?_
      refine lv_icmp_le (tgt := 33) hx hb dX1_descentSet_24 (by decide) (fun hc => ?_) (fun hc => ?_)
      · have hf := if_t hc hf
        obtain ⟨y3, ey3⟩ : ∃ z : Int32, z = x2 + (1 : Int32) := ⟨_, rfl⟩
        have hf := nm_use ey3 hf
        refine lv_iinc (v := y3) (lv' := [(2, .int y3), (0, .ref q0), (1, .int x1)]) hx hb dX1_descentSet_33 hl (k := 2) rfl (by rw [ey3]; rfl) (by decide) rfl (fun ls hl => ?_)
        refine lv_goto (tgt := 4) hx hb dX1_descentSet_36 (by decide) ?_
        exact ih x1 y3 _ _ ls hf hP hD hS (lv_sub hl [1, 2, 0] rfl)
      · have hf := if_f hc hf
        refine lv_iload_n hx hb dX1_descentSet_27 rfl (lv_at hl 1 rfl) ?_
        refine lv_iconst (v := (1 : Int32)) hx hb dX1_descentSet_28 (by decide) ?_
        refine lv_iload_n hx hb dX1_descentSet_29 rfl (lv_at hl 2 rfl) ?_
        refine lv_ishl hx hb dX1_descentSet_30 ?_
        refine lv_ior hx hb dX1_descentSet_31 ?_
        refine lv_topi (fun y4 ey4 => ?_)
        have hf := nm_use ey4 hf
        refine lv_istore_n (lv' := [(1, .int y4), (0, .ref q0), (2, .int x2)]) hx hb dX1_descentSet_32 rfl hl (by decide) rfl (fun ls hl => ?_)
        obtain ⟨y5, ey5⟩ : ∃ z : Int32, z = x2 + (1 : Int32) := ⟨_, rfl⟩
        have hf := nm_use ey5 hf
        refine lv_iinc (v := y5) (lv' := [(2, .int y5), (1, .int y4), (0, .ref q0)]) hx hb dX1_descentSet_33 hl (k := 2) rfl (by rw [ey5]; rfl) (by decide) rfl (fun ls hl => ?_)
        refine lv_goto (tgt := 4) hx hb dX1_descentSet_36 (by decide) ?_
        exact ih y4 y5 _ _ ls hf hP hD hS (lv_sub hl [2, 1, 0] rfl)
set_option maxHeartbeats 4000000 in
set_option maxRecDepth 100000 in
theorem tX1_descentSet (l : Launch) (G : GX) (q0 : Nat) (q0_row : Nat) (k0_row : Nat → Int32) (res : Int32) (hf : fX1_descentSet k0_row = some res) : Ct l yX1_descentSet wsX1_descentSet rmX1_descentSet G [.ref q0] (wdX1_descentSet G q0 q0_row k0_row) (wdX1_descentSet G q0 q0_row k0_row) (some (.int res)) := by
  refine Ct.of (cc := cX1_descentSet) (nL := 3) (ret := (some .int)) (by decide) rfl (Nat.le_of_ble_eq_true rfl) rfl ?_
  intro p e s m below meth c A ls C hP hD hl
  obtain ⟨hx, hb, hml, hown, hts, hr, hlocks, hA, hG⟩ := id C
  have hS : va_S A s.heap s.heap [] := va_S.rf
  unfold fX1_descentSet at hf
  refine lv_iconst (v := (0 : Int32)) hx hb dX1_descentSet_0 (by decide) ?_
  refine lv_istore_n (lv' := [(1, .int (0 : Int32)), (0, .ref q0)]) hx hb dX1_descentSet_1 rfl hl (by decide) rfl (fun ls hl => ?_)
  refine lv_iconst (v := (1 : Int32)) hx hb dX1_descentSet_2 (by decide) ?_
  refine lv_istore_n (lv' := [(2, .int (1 : Int32)), (1, .int (0 : Int32)), (0, .ref q0)]) hx hb dX1_descentSet_3 rfl hl (by decide) rfl (fun ls hl => ?_)
  exact wX1_descentSet_4 C q0 q0_row k0_row res fu (0 : Int32) (1 : Int32) _ _ ls hf hP hD hS (lv_sub hl [2, 1, 0] rfl)
abbrev wdX1_lastDescent (G : GX) (q0 : Nat) (q0_row : Nat) (k0_row : Nat → Int32) : va_W := [(q0, .inr (1, [.ref q0_row])), (q0_row, .inl (G.2.1, 10, .inl k0_row))]
abbrev rmX1_lastDescent : Room := { frames := 0, cells := 0, slots := 0, locals := 0 }
abbrev glX1_lastDescent (p : Program) (l : Launch) (e : Env) (s : State) (m : MethodId) (args : Array Value) (below : List Frame) (meth : Method) (c : Code) (G : GX) (A : Nat → Prop) (q0 : Nat) (q0_row : Nat) (k0_row : Nat → Int32) (res : Int32) (H : Heap) (locs : List Loc) (pc : Nat) (ls : Array Slot) (st : List Value) : Prop := W p l e rmX1_lastDescent s m args below meth c H locs 0 0 (MQ below (ctQ G A (wdX1_lastDescent G q0 q0_row k0_row) (some (.int res))) args s 0 0 A) (F0 m pc ls st)
set_option maxRecDepth 20000 in
theorem mX1_lastDescent_0 : Cond.fieldLink RX1 9 "SchubertDesk$Digits" "row" "[I" ∈ wsX1_lastDescent := by decide +kernel
set_option maxRecDepth 20000 in
theorem nX1_lastDescent_X1 : ∀ w ∈ u_ws RX1 TX1 1, w ∈ wsX1_lastDescent := by decide +kernel
set_option maxHeartbeats 4000000 in
set_option maxRecDepth 100000 in
theorem wX1_lastDescent_4 {p : Program} {l : Launch} {e : Env} {s : State} {m : MethodId} {args : Array Value} {below : List Frame} {meth : Method} {c : Code} {G : GX} {A : Nat → Prop} (C : Cx p s m args meth c cX1_lastDescent 3 (some .int) wsX1_lastDescent RX1 G A) (q0 : Nat) (q0_row : Nat) (k0_row : Nat → Int32) (res : Int32) (n : Nat) : ∀ (x1 : Int32) (x2 : Int32) (H : Heap) (locs : List Loc) (ls : Array Slot), fX1_lastDescent_L4 k0_row n x1 x2 = some res → va_P G.1 vwCl (wdX1_lastDescent G q0 q0_row k0_row) H → va_D A (wdX1_lastDescent G q0 q0_row k0_row) → va_S A s.heap H locs → lv_has ls 3 [(0, .ref q0), (1, .int x1), (2, .int x2)] → glX1_lastDescent p l e s m args below meth c G A q0 q0_row k0_row res H locs 4 ls [] := by
  obtain ⟨hx, hb, hml, hown, hts, hr, hlocks, hA, hG⟩ := id C
  induction n with
  | zero => intro x1 x2 H locs ls hf hP hD hS hl; cases hf
  | succ n ih =>
    intro x1 x2 H locs ls hf hP hD hS hl
    simp only [fX1_lastDescent_L4] at hf
    refine lv_iload_n hx hb dX1_lastDescent_4 rfl (lv_at hl 2 rfl) ?_
    refine lv_bipush (v := (9 : Int32)) hx hb dX1_lastDescent_5 (by decide) ?_
    refine lv_icmp_ge (tgt := 35) hx hb dX1_lastDescent_7 (by decide) (fun hc => ?_) (fun hc => ?_)
    · have hf := if_t hc hf
      refine lv_iload_n hx hb dX1_lastDescent_35 rfl (lv_at hl 1 rfl) ?_
      cases hf
      exact rt_i C hP hD hS dX1_lastDescent_36
    · have hf := if_f hc hf
      refine lv_aload_n hx hb dX1_lastDescent_10 rfl (lv_at hl 0 rfl) ?_
      refine va_get (D := G.1) (ci := 1) (v := .ref q0_row) (C := RX1) (T := TX1) (N := 1) hx hb hts nX1_lastDescent_X1 hown hG.1 hP 0 rfl rfl 0 (by decide) (hts _ mX1_lastDescent_0) (fun _ h9 => h9) rfl dX1_lastDescent_11 ?_
      refine lv_iload_n hx hb dX1_lastDescent_14 rfl (lv_at hl 2 rfl) ?_
      obtain ⟨hin, hf⟩ := gI_use hf
      refine va_iald hx hb hG.1 hP 1 0 rfl rfl hin dX1_lastDescent_15 ?_
      refine lv_aload_n hx hb dX1_lastDescent_16 rfl (lv_at hl 0 rfl) ?_
      refine va_get (D := G.1) (ci := 1) (v := .ref q0_row) (C := RX1) (T := TX1) (N := 1) hx hb hts nX1_lastDescent_X1 hown hG.1 hP 0 rfl rfl 0 (by decide) (hts _ mX1_lastDescent_0) (fun _ h9 => h9) rfl dX1_lastDescent_17 ?_
      refine lv_iload_n hx hb dX1_lastDescent_20 rfl (lv_at hl 2 rfl) ?_
      refine lv_iconst (v := (1 : Int32)) hx hb dX1_lastDescent_21 (by decide) ?_
      refine lv_iadd hx hb dX1_lastDescent_22 ?_
      obtain ⟨hin, hf⟩ := gI_use hf
      refine va_iald hx hb hG.1 hP 1 0 rfl rfl hin dX1_lastDescent_23 ?_
      refine lv_icmp_le (tgt := 29) hx hb dX1_lastDescent_24 (by decide) (fun hc => ?_) (fun hc => ?_)
      · have hf := if_t hc hf
        obtain ⟨y3, ey3⟩ : ∃ z : Int32, z = x2 + (1 : Int32) := ⟨_, rfl⟩
        have hf := nm_use ey3 hf
        refine lv_iinc (v := y3) (lv' := [(2, .int y3), (0, .ref q0), (1, .int x1)]) hx hb dX1_lastDescent_29 hl (k := 2) rfl (by rw [ey3]; rfl) (by decide) rfl (fun ls hl => ?_)
        refine lv_goto (tgt := 4) hx hb dX1_lastDescent_32 (by decide) ?_
        exact ih x1 y3 _ _ ls hf hP hD hS (lv_sub hl [1, 2, 0] rfl)
      · have hf := if_f hc hf
        refine lv_iload_n hx hb dX1_lastDescent_27 rfl (lv_at hl 2 rfl) ?_
        refine lv_istore_n (lv' := [(1, .int x2), (0, .ref q0), (2, .int x2)]) hx hb dX1_lastDescent_28 rfl hl (by decide) rfl (fun ls hl => ?_)
        obtain ⟨y4, ey4⟩ : ∃ z : Int32, z = x2 + (1 : Int32) := ⟨_, rfl⟩
        have hf := nm_use ey4 hf
        refine lv_iinc (v := y4) (lv' := [(2, .int y4), (1, .int x2), (0, .ref q0)]) hx hb dX1_lastDescent_29 hl (k := 2) rfl (by rw [ey4]; rfl) (by decide) rfl (fun ls hl => ?_)
        refine lv_goto (tgt := 4) hx hb dX1_lastDescent_32 (by decide) ?_
        exact ih x2 y4 _ _ ls hf hP hD hS (lv_sub hl [2, 1, 0] rfl)
set_option maxHeartbeats 4000000 in
set_option maxRecDepth 100000 in
theorem tX1_lastDescent (l : Launch) (G : GX) (q0 : Nat) (q0_row : Nat) (k0_row : Nat → Int32) (res : Int32) (hf : fX1_lastDescent k0_row = some res) : Ct l yX1_lastDescent wsX1_lastDescent rmX1_lastDescent G [.ref q0] (wdX1_lastDescent G q0 q0_row k0_row) (wdX1_lastDescent G q0 q0_row k0_row) (some (.int res)) := by
  refine Ct.of (cc := cX1_lastDescent) (nL := 3) (ret := (some .int)) (by decide) rfl (Nat.le_of_ble_eq_true rfl) rfl ?_
  intro p e s m below meth c A ls C hP hD hl
  obtain ⟨hx, hb, hml, hown, hts, hr, hlocks, hA, hG⟩ := id C
  have hS : va_S A s.heap s.heap [] := va_S.rf
  unfold fX1_lastDescent at hf
  refine lv_iconst (v := (0 : Int32)) hx hb dX1_lastDescent_0 (by decide) ?_
  refine lv_istore_n (lv' := [(1, .int (0 : Int32)), (0, .ref q0)]) hx hb dX1_lastDescent_1 rfl hl (by decide) rfl (fun ls hl => ?_)
  refine lv_iconst (v := (1 : Int32)) hx hb dX1_lastDescent_2 (by decide) ?_
  refine lv_istore_n (lv' := [(2, .int (1 : Int32)), (1, .int (0 : Int32)), (0, .ref q0)]) hx hb dX1_lastDescent_3 rfl hl (by decide) rfl (fun ls hl => ?_)
  exact wX1_lastDescent_4 C q0 q0_row k0_row res fu (0 : Int32) (1 : Int32) _ _ ls hf hP hD hS (lv_sub hl [2, 1, 0] rfl)
