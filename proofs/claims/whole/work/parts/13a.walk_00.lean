abbrev wdX0_clear (G : GX) (q0 : Nat) (q0_items : Nat) (k0_size : Int32) : va_W := [(q0, .inr (0, [.ref q0_items, .int k0_size]))]
abbrev rmX0_clear : Room := { frames := 0, cells := 0, slots := 0, locals := 0 }
abbrev glX0_clear (p : Program) (l : Launch) (e : Env) (s : State) (m : MethodId) (args : Array Value) (below : List Frame) (meth : Method) (c : Code) (G : GX) (A : Nat → Prop) (q0 : Nat) (q0_items : Nat) (res : Int32) (H : Heap) (locs : List Loc) (pc : Nat) (ls : Array Slot) (st : List Value) : Prop := W p l e rmX0_clear s m args below meth c H locs 0 0 (MQ below (ctQ G A (wdX0_clear G q0 q0_items res) none) args s 0 0 A) (F0 m pc ls st)
set_option maxRecDepth 20000 in
theorem mX0_clear_0 : Cond.fieldLink RX0 9 "SchubertDesk$Ascending" "size" "I" ∈ wsX0_clear := by decide +kernel
set_option maxRecDepth 20000 in
theorem nX0_clear_X0 : ∀ w ∈ u_ws RX0 TX0 2, w ∈ wsX0_clear := by decide +kernel
set_option maxHeartbeats 4000000 in
set_option maxRecDepth 100000 in
theorem tX0_clear (l : Launch) (G : GX) (q0 : Nat) (q0_items : Nat) (k0_size : Int32) (res : Int32) (hf : fX0_clear k0_size = some res) : Ct l yX0_clear wsX0_clear rmX0_clear G [.ref q0] (wdX0_clear G q0 q0_items k0_size) (wdX0_clear G q0 q0_items res) none := by
  refine Ct.of (cc := cX0_clear) (nL := 1) (ret := none) (by decide) rfl (Nat.le_of_ble_eq_true rfl) rfl ?_
  intro p e s m below meth c A ls C hP hD hl
  obtain ⟨hx, hb, hml, hown, hts, hr, hlocks, hA, hG⟩ := id C
  have hS : va_S A s.heap s.heap [] := va_S.rf
  unfold fX0_clear at hf
  refine lv_aload_n hx hb dX0_clear_0 rfl (lv_at hl 0 rfl) ?_
  refine lv_iconst (v := (0 : Int32)) hx hb dX0_clear_1 (by decide) ?_
  refine va_put (D := G.1) (ci := 0) (v := .int (0 : Int32)) (ty := .int) (C := RX0) (T := TX0) (N := 2) hx hb hts nX0_clear_X0 tyX0 tyX0_ok nmX0 hown hG.1 hP hD hS 0 rfl rfl 1 (by decide) (hts _ mX0_clear_0) (fun _ h9 => h9) rfl (by decide +kernel) rfl rfl (Nat.le_of_ble_eq_true rfl) dX0_clear_2 (fun H locs hP hD hS => ?_)
  have hP : va_P G.1 vwCl (wdX0_clear G q0 q0_items (0 : Int32)) H := hP
  have hD : va_D A (wdX0_clear G q0 q0_items (0 : Int32)) := hD
  cases hf
  exact rt_v C hP hD hS dX0_clear_5
abbrev wdX0_put (G : GX) (nA : Nat) (q0 : Nat) (q0_items : Nat) (k0_items : Nat → Int32) (k0_size : Int32) : va_W := [(q0, .inr (0, [.ref q0_items, .int k0_size])), (q0_items, .inl (G.2.1, nA, .inl k0_items))]
abbrev rmX0_put : Room := { frames := 1, cells := 0, slots := 0, locals := 60 }
abbrev glX0_put (p : Program) (l : Launch) (e : Env) (s : State) (m : MethodId) (args : Array Value) (below : List Frame) (meth : Method) (c : Code) (G : GX) (A : Nat → Prop) (nA : Nat) (q0 : Nat) (q0_items : Nat) (res : (Nat → Int32) × Int32) (H : Heap) (locs : List Loc) (pc : Nat) (ls : Array Slot) (st : List Value) : Prop := W p l e rmX0_put s m args below meth c H locs 0 0 (MQ below (ctQ G A (wdX0_put G nA q0 q0_items res.1 res.2) none) args s 0 0 A) (F0 m pc ls st)
set_option maxRecDepth 20000 in
theorem mX0_put_0 : Cond.fieldLink RX0 9 "SchubertDesk$Ascending" "size" "I" ∈ wsX0_put := by decide +kernel
set_option maxRecDepth 20000 in
theorem mX0_put_1 : Cond.fieldLink RX0 21 "SchubertDesk$Ascending" "items" "[I" ∈ wsX0_put := by decide +kernel
set_option maxRecDepth 20000 in
theorem mX0_put_2 : Cond.methodLink RX0 25 arraycopyName ∈ wsX0_put := by decide +kernel
set_option maxRecDepth 20000 in
theorem mX0_put_3 : Cond.native arraycopyName ∈ wsX0_put := by decide +kernel
set_option maxRecDepth 20000 in
theorem mX0_put_4 : Cond.static arraycopyName ∈ wsX0_put := by decide +kernel
set_option maxRecDepth 20000 in
theorem mX0_put_5 : Cond.initialized "java/lang/System" ∈ wsX0_put := by decide +kernel
set_option maxRecDepth 20000 in
theorem nX0_put_X0 : ∀ w ∈ u_ws RX0 TX0 2, w ∈ wsX0_put := by decide +kernel
set_option maxHeartbeats 4000000 in
set_option maxRecDepth 100000 in
theorem wX0_put_67 {p : Program} {l : Launch} {e : Env} {s : State} {m : MethodId} {args : Array Value} {below : List Frame} {meth : Method} {c : Code} {G : GX} {A : Nat → Prop} (C : Cx p s m args meth c cX0_put 4 none wsX0_put RX0 G A) (nA : Nat) (q0 : Nat) (q0_items : Nat) (p1 : Int32) (res : (Nat → Int32) × Int32) : ∀ (k0_items : Nat → Int32) (k0_size : Int32) (x2 : Int32) (s0 : Int32) (H : Heap) (locs : List Loc) (ls : Array Slot), fX0_put_b67 nA p1 k0_items k0_size x2 s0 = some res → va_P G.1 vwCl (wdX0_put G nA q0 q0_items k0_items k0_size) H → va_D A (wdX0_put G nA q0 q0_items k0_items k0_size) → va_S A s.heap H locs → lv_has ls 4 [(0, .ref q0), (1, .int p1), (2, .int x2)] → glX0_put p l e s m args below meth c G A nA q0 q0_items res H locs 67 ls [.int s0] := by
  obtain ⟨hx, hb, hml, hown, hts, hr, hlocks, hA, hG⟩ := id C
  intro k0_items k0_size x2 s0 H locs ls hf hP hD hS hl
  unfold fX0_put_b67 at hf
  refine lv_istore_n (lv' := [(3, .int s0), (0, .ref q0), (1, .int p1), (2, .int x2)]) hx hb dX0_put_67 rfl hl (by decide) rfl (fun ls hl => ?_)
  refine lv_iload_n hx hb dX0_put_68 rfl (lv_at hl 0 rfl) ?_
  refine lv_if_ne (tgt := 84) hx hb dX0_put_69 (by decide) (fun hc => ?_) (fun hc => ?_)
  · have hf := if_f hc hf
    cases hf
    exact rt_v C hP hD hS dX0_put_84
  · have hf := if_t hc hf
    refine lv_aload_n hx hb dX0_put_72 rfl (lv_at hl 1 rfl) ?_
    refine va_get (D := G.1) (ci := 0) (v := .int k0_size) (C := RX0) (T := TX0) (N := 2) hx hb hts nX0_put_X0 hown hG.1 hP 0 rfl rfl 1 (by decide) (hts _ mX0_put_0) (fun _ h9 => h9) rfl dX0_put_73 ?_
    refine lv_aload_n hx hb dX0_put_76 rfl (lv_at hl 1 rfl) ?_
    refine va_get (D := G.1) (ci := 0) (v := .ref q0_items) (C := RX0) (T := TX0) (N := 2) hx hb hts nX0_put_X0 hown hG.1 hP 0 rfl rfl 0 (by decide) (hts _ mX0_put_1) (fun _ h9 => h9) rfl dX0_put_77 ?_
    refine va_alen (v := (Int32.ofNat nA)) hx hb hG.1 hP 1 0 rfl rfl rfl dX0_put_80 ?_
    refine lv_icmp_lt (tgt := 85) hx hb dX0_put_81 (by decide) (fun hc => ?_) (fun hc => ?_)
    · have hf := if_t hc hf
      refine lv_aload_n hx hb dX0_put_85 rfl (lv_at hl 1 rfl) ?_
      refine va_get (D := G.1) (ci := 0) (v := .ref q0_items) (C := RX0) (T := TX0) (N := 2) hx hb hts nX0_put_X0 hown hG.1 hP 0 rfl rfl 0 (by decide) (hts _ mX0_put_1) (fun _ h9 => h9) rfl dX0_put_86 ?_
      refine lv_iload_n hx hb dX0_put_89 rfl (lv_at hl 3 rfl) ?_
      refine lv_aload_n hx hb dX0_put_90 rfl (lv_at hl 1 rfl) ?_
      refine va_get (D := G.1) (ci := 0) (v := .ref q0_items) (C := RX0) (T := TX0) (N := 2) hx hb hts nX0_put_X0 hown hG.1 hP 0 rfl rfl 0 (by decide) (hts _ mX0_put_1) (fun _ h9 => h9) rfl dX0_put_91 ?_
      refine lv_iload_n hx hb dX0_put_94 rfl (lv_at hl 3 rfl) ?_
      refine lv_iconst (v := (1 : Int32)) hx hb dX0_put_95 (by decide) ?_
      refine lv_iadd hx hb dX0_put_96 ?_
      refine lv_aload_n hx hb dX0_put_97 rfl (lv_at hl 1 rfl) ?_
      refine va_get (D := G.1) (ci := 0) (v := .int k0_size) (C := RX0) (T := TX0) (N := 2) hx hb hts nX0_put_X0 hown hG.1 hP 0 rfl rfl 1 (by decide) (hts _ mX0_put_0) (fun _ h9 => h9) rfl dX0_put_98 ?_
      refine lv_iload_n hx hb dX0_put_101 rfl (lv_at hl 3 rfl) ?_
      refine lv_isub hx hb dX0_put_102 ?_
      obtain ⟨⟨hc1, hc2, hc3, hc4, hc5⟩, hf⟩ := cY_use hf
      refine va_copyi hx hb (hml.trans hl.1.symm) hown (hts _ mX0_put_2) (hts _ mX0_put_3) (hts _ mX0_put_4) (hts _ mX0_put_5) hG.1 hP hD hS 1 1 0 0 rfl rfl rfl rfl rfl hc1 hc2 hc3 hc4 hc5 (fun _ _ => rfl) (Nat.le_of_ble_eq_true rfl) (by decide) dX0_put_103 (fun H locs hP hD hS => ?_)
      have hP : va_P G.1 vwCl (wdX0_put G nA q0 q0_items (va_cpy k0_items k0_items (x2).toNatClampNeg ((x2 + (1 : Int32))).toNatClampNeg ((k0_size - x2)).toNatClampNeg) k0_size) H := hP
      have hD : va_D A (wdX0_put G nA q0 q0_items (va_cpy k0_items k0_items (x2).toNatClampNeg ((x2 + (1 : Int32))).toNatClampNeg ((k0_size - x2)).toNatClampNeg) k0_size) := hD
      refine lv_aload_n hx hb dX0_put_106 rfl (lv_at hl 1 rfl) ?_
      refine va_get (D := G.1) (ci := 0) (v := .ref q0_items) (C := RX0) (T := TX0) (N := 2) hx hb hts nX0_put_X0 hown hG.1 hP 0 rfl rfl 0 (by decide) (hts _ mX0_put_1) (fun _ h9 => h9) rfl dX0_put_107 ?_
      refine lv_iload_n hx hb dX0_put_110 rfl (lv_at hl 3 rfl) ?_
      refine lv_iload_n hx hb dX0_put_111 rfl (lv_at hl 2 rfl) ?_
      obtain ⟨hin, hf⟩ := pI_use hf
      refine va_iast hx hb hG.1 hP hD hS 1 0 rfl rfl hin dX0_put_112 (fun H locs hP hD hS => ?_)
      have hP : va_P G.1 vwCl (wdX0_put G nA q0 q0_items (upd (va_cpy k0_items k0_items (x2).toNatClampNeg ((x2 + (1 : Int32))).toNatClampNeg ((k0_size - x2)).toNatClampNeg) (x2).toNatClampNeg p1) k0_size) H := hP
      have hD : va_D A (wdX0_put G nA q0 q0_items (upd (va_cpy k0_items k0_items (x2).toNatClampNeg ((x2 + (1 : Int32))).toNatClampNeg ((k0_size - x2)).toNatClampNeg) (x2).toNatClampNeg p1) k0_size) := hD
      refine lv_aload_n hx hb dX0_put_113 rfl (lv_at hl 1 rfl) ?_
      refine lv_dup hx hb dX0_put_114 rfl ?_
      refine va_get (D := G.1) (ci := 0) (v := .int k0_size) (C := RX0) (T := TX0) (N := 2) hx hb hts nX0_put_X0 hown hG.1 hP 0 rfl rfl 1 (by decide) (hts _ mX0_put_0) (fun _ h9 => h9) rfl dX0_put_115 ?_
      refine lv_iconst (v := (1 : Int32)) hx hb dX0_put_118 (by decide) ?_
      refine lv_iadd hx hb dX0_put_119 ?_
      refine va_put (D := G.1) (ci := 0) (v := .int (k0_size + (1 : Int32))) (ty := .int) (C := RX0) (T := TX0) (N := 2) hx hb hts nX0_put_X0 tyX0 tyX0_ok nmX0 hown hG.1 hP hD hS 0 rfl rfl 1 (by decide) (hts _ mX0_put_0) (fun _ h9 => h9) rfl (by decide +kernel) rfl rfl (Nat.le_of_ble_eq_true rfl) dX0_put_120 (fun H locs hP hD hS => ?_)
      have hP : va_P G.1 vwCl (wdX0_put G nA q0 q0_items (upd (va_cpy k0_items k0_items (x2).toNatClampNeg ((x2 + (1 : Int32))).toNatClampNeg ((k0_size - x2)).toNatClampNeg) (x2).toNatClampNeg p1) (k0_size + (1 : Int32))) H := hP
      have hD : va_D A (wdX0_put G nA q0 q0_items (upd (va_cpy k0_items k0_items (x2).toNatClampNeg ((x2 + (1 : Int32))).toNatClampNeg ((k0_size - x2)).toNatClampNeg) (x2).toNatClampNeg p1) (k0_size + (1 : Int32))) := hD
      cases hf
      exact rt_v C hP hD hS dX0_put_123
    · have hf := if_f hc hf
      cases hf
      exact rt_v C hP hD hS dX0_put_84
set_option maxHeartbeats 4000000 in
set_option maxRecDepth 100000 in
theorem wX0_put_66 {p : Program} {l : Launch} {e : Env} {s : State} {m : MethodId} {args : Array Value} {below : List Frame} {meth : Method} {c : Code} {G : GX} {A : Nat → Prop} (C : Cx p s m args meth c cX0_put 4 none wsX0_put RX0 G A) (nA : Nat) (q0 : Nat) (q0_items : Nat) (p1 : Int32) (res : (Nat → Int32) × Int32) : ∀ (k0_items : Nat → Int32) (k0_size : Int32) (x2 : Int32) (H : Heap) (locs : List Loc) (ls : Array Slot), fX0_put_b66 nA p1 k0_items k0_size x2 = some res → va_P G.1 vwCl (wdX0_put G nA q0 q0_items k0_items k0_size) H → va_D A (wdX0_put G nA q0 q0_items k0_items k0_size) → va_S A s.heap H locs → lv_has ls 4 [(0, .ref q0), (1, .int p1), (2, .int x2)] → glX0_put p l e s m args below meth c G A nA q0 q0_items res H locs 66 ls [] := by
  obtain ⟨hx, hb, hml, hown, hts, hr, hlocks, hA, hG⟩ := id C
  intro k0_items k0_size x2 H locs ls hf hP hD hS hl
  unfold fX0_put_b66 at hf
  refine lv_iconst (v := (0 : Int32)) hx hb dX0_put_66 (by decide) ?_
  exact wX0_put_67 C nA q0 q0_items p1 res k0_items k0_size x2 (0 : Int32) _ _ ls hf hP hD hS (lv_sub hl [0, 1, 2] rfl)
set_option maxHeartbeats 4000000 in
set_option maxRecDepth 100000 in
theorem wX0_put_35 {p : Program} {l : Launch} {e : Env} {s : State} {m : MethodId} {args : Array Value} {below : List Frame} {meth : Method} {c : Code} {G : GX} {A : Nat → Prop} (C : Cx p s m args meth c cX0_put 4 none wsX0_put RX0 G A) (nA : Nat) (q0 : Nat) (q0_items : Nat) (p1 : Int32) (res : (Nat → Int32) × Int32) : ∀ (k0_items : Nat → Int32) (k0_size : Int32) (x2 : Int32) (H : Heap) (locs : List Loc) (ls : Array Slot), fX0_put_b35 nA p1 k0_items k0_size x2 = some res → va_P G.1 vwCl (wdX0_put G nA q0 q0_items k0_items k0_size) H → va_D A (wdX0_put G nA q0 q0_items k0_items k0_size) → va_S A s.heap H locs → lv_has ls 4 [(0, .ref q0), (1, .int p1), (2, .int x2)] → glX0_put p l e s m args below meth c G A nA q0 q0_items res H locs 35 ls [] := by
  obtain ⟨hx, hb, hml, hown, hts, hr, hlocks, hA, hG⟩ := id C
  intro k0_items k0_size x2 H locs ls hf hP hD hS hl
  unfold fX0_put_b35 at hf
  refine lv_iload_n hx hb dX0_put_35 rfl (lv_at hl 2 rfl) ?_
  refine lv_aload_n hx hb dX0_put_36 rfl (lv_at hl 0 rfl) ?_
  refine va_get (D := G.1) (ci := 0) (v := .int k0_size) (C := RX0) (T := TX0) (N := 2) hx hb hts nX0_put_X0 hown hG.1 hP 0 rfl rfl 1 (by decide) (hts _ mX0_put_0) (fun _ h9 => h9) rfl dX0_put_37 ?_
  refine lv_icmp_ge (tgt := 66) hx hb dX0_put_40 (by decide) (fun hc => ?_) (fun hc => ?_)
  · have hf := if_t hc hf
    exact wX0_put_66 C nA q0 q0_items p1 res k0_items k0_size x2 _ _ ls hf hP hD hS (lv_sub hl [0, 1, 2] rfl)
  · have hf := if_f hc hf
    refine lv_iload_n hx hb dX0_put_43 rfl (lv_at hl 2 rfl) ?_
    refine lv_aload_n hx hb dX0_put_44 rfl (lv_at hl 0 rfl) ?_
    refine va_get (D := G.1) (ci := 0) (v := .ref q0_items) (C := RX0) (T := TX0) (N := 2) hx hb hts nX0_put_X0 hown hG.1 hP 0 rfl rfl 0 (by decide) (hts _ mX0_put_1) (fun _ h9 => h9) rfl dX0_put_45 ?_
    refine va_alen (v := (Int32.ofNat nA)) hx hb hG.1 hP 1 0 rfl rfl rfl dX0_put_48 ?_
    refine lv_icmp_ge (tgt := 66) hx hb dX0_put_49 (by decide) (fun hc => ?_) (fun hc => ?_)
    · have hf := if_t hc hf
      exact wX0_put_66 C nA q0 q0_items p1 res k0_items k0_size x2 _ _ ls hf hP hD hS (lv_sub hl [0, 1, 2] rfl)
    · have hf := if_f hc hf
      refine lv_aload_n hx hb dX0_put_52 rfl (lv_at hl 0 rfl) ?_
      refine va_get (D := G.1) (ci := 0) (v := .ref q0_items) (C := RX0) (T := TX0) (N := 2) hx hb hts nX0_put_X0 hown hG.1 hP 0 rfl rfl 0 (by decide) (hts _ mX0_put_1) (fun _ h9 => h9) rfl dX0_put_53 ?_
      refine lv_iload_n hx hb dX0_put_56 rfl (lv_at hl 2 rfl) ?_
      obtain ⟨hin, hf⟩ := gI_use hf
      refine va_iald hx hb hG.1 hP 1 0 rfl rfl hin dX0_put_57 ?_
      refine lv_iload_n hx hb dX0_put_58 rfl (lv_at hl 1 rfl) ?_
      refine lv_icmp_ne (tgt := 66) hx hb dX0_put_59 (by decide) (fun hc => ?_) (fun hc => ?_)
      · have hf := if_f hc hf
        exact wX0_put_66 C nA q0 q0_items p1 res k0_items k0_size x2 _ _ ls hf hP hD hS (lv_sub hl [0, 1, 2] rfl)
      · have hf := if_t hc hf
        refine lv_iconst (v := (1 : Int32)) hx hb dX0_put_62 (by decide) ?_
        refine lv_goto (tgt := 67) hx hb dX0_put_63 (by decide) ?_
        exact wX0_put_67 C nA q0 q0_items p1 res k0_items k0_size x2 (1 : Int32) _ _ ls hf hP hD hS (lv_sub hl [0, 1, 2] rfl)
set_option maxHeartbeats 4000000 in
set_option maxRecDepth 100000 in
theorem wX0_put_2 {p : Program} {l : Launch} {e : Env} {s : State} {m : MethodId} {args : Array Value} {below : List Frame} {meth : Method} {c : Code} {G : GX} {A : Nat → Prop} (C : Cx p s m args meth c cX0_put 4 none wsX0_put RX0 G A) (nA : Nat) (q0 : Nat) (q0_items : Nat) (p1 : Int32) (res : (Nat → Int32) × Int32) (n : Nat) : ∀ (k0_items : Nat → Int32) (k0_size : Int32) (x2 : Int32) (H : Heap) (locs : List Loc) (ls : Array Slot), fX0_put_L2 nA p1 n k0_items k0_size x2 = some res → va_P G.1 vwCl (wdX0_put G nA q0 q0_items k0_items k0_size) H → va_D A (wdX0_put G nA q0 q0_items k0_items k0_size) → va_S A s.heap H locs → lv_has ls 4 [(0, .ref q0), (1, .int p1), (2, .int x2)] → glX0_put p l e s m args below meth c G A nA q0 q0_items res H locs 2 ls [] := by
  obtain ⟨hx, hb, hml, hown, hts, hr, hlocks, hA, hG⟩ := id C
  induction n with
  | zero => intro k0_items k0_size x2 H locs ls hf hP hD hS hl; cases hf
  | succ n ih =>
    intro k0_items k0_size x2 H locs ls hf hP hD hS hl
    simp only [fX0_put_L2] at hf
    refine lv_iload_n hx hb dX0_put_2 rfl (lv_at hl 2 rfl) ?_
    refine lv_aload_n hx hb dX0_put_3 rfl (lv_at hl 0 rfl) ?_
    refine va_get (D := G.1) (ci := 0) (v := .int k0_size) (C := RX0) (T := TX0) (N := 2) hx hb hts nX0_put_X0 hown hG.1 hP 0 rfl rfl 1 (by decide) (hts _ mX0_put_0) (fun _ h9 => h9) rfl dX0_put_4 ?_
    refine lv_icmp_ge (tgt := 35) hx hb dX0_put_7 (by decide) (fun hc => ?_) (fun hc => ?_)
    · have hf := if_t hc hf
      exact wX0_put_35 C nA q0 q0_items p1 res k0_items k0_size x2 _ _ ls hf hP hD hS (lv_sub hl [0, 1, 2] rfl)
    · have hf := if_f hc hf
      refine lv_iload_n hx hb dX0_put_10 rfl (lv_at hl 2 rfl) ?_
      refine lv_aload_n hx hb dX0_put_11 rfl (lv_at hl 0 rfl) ?_
      refine va_get (D := G.1) (ci := 0) (v := .ref q0_items) (C := RX0) (T := TX0) (N := 2) hx hb hts nX0_put_X0 hown hG.1 hP 0 rfl rfl 0 (by decide) (hts _ mX0_put_1) (fun _ h9 => h9) rfl dX0_put_12 ?_
      refine va_alen (v := (Int32.ofNat nA)) hx hb hG.1 hP 1 0 rfl rfl rfl dX0_put_15 ?_
      refine lv_icmp_ge (tgt := 35) hx hb dX0_put_16 (by decide) (fun hc => ?_) (fun hc => ?_)
      · have hf := if_t hc hf
        exact wX0_put_35 C nA q0 q0_items p1 res k0_items k0_size x2 _ _ ls hf hP hD hS (lv_sub hl [0, 1, 2] rfl)
      · have hf := if_f hc hf
        refine lv_aload_n hx hb dX0_put_19 rfl (lv_at hl 0 rfl) ?_
        refine va_get (D := G.1) (ci := 0) (v := .ref q0_items) (C := RX0) (T := TX0) (N := 2) hx hb hts nX0_put_X0 hown hG.1 hP 0 rfl rfl 0 (by decide) (hts _ mX0_put_1) (fun _ h9 => h9) rfl dX0_put_20 ?_
        refine lv_iload_n hx hb dX0_put_23 rfl (lv_at hl 2 rfl) ?_
        obtain ⟨hin, hf⟩ := gI_use hf
        refine va_iald hx hb hG.1 hP 1 0 rfl rfl hin dX0_put_24 ?_
        refine lv_iload_n hx hb dX0_put_25 rfl (lv_at hl 1 rfl) ?_
        refine lv_icmp_ge (tgt := 35) hx hb dX0_put_26 (by decide) (fun hc => ?_) (fun hc => ?_)
        · have hf := if_t hc hf
          exact wX0_put_35 C nA q0 q0_items p1 res k0_items k0_size x2 _ _ ls hf hP hD hS (lv_sub hl [0, 1, 2] rfl)
        · have hf := if_f hc hf
          obtain ⟨y5, ey5⟩ : ∃ z : Int32, z = x2 + (1 : Int32) := ⟨_, rfl⟩
          have hf := nm_use ey5 hf
          refine lv_iinc (v := y5) (lv' := [(2, .int y5), (0, .ref q0), (1, .int p1)]) hx hb dX0_put_29 hl (k := 2) rfl (by rw [ey5]; rfl) (by decide) rfl (fun ls hl => ?_)
          refine lv_goto (tgt := 2) hx hb dX0_put_32 (by decide) ?_
          exact ih k0_items k0_size y5 _ _ ls hf hP hD hS (lv_sub hl [1, 2, 0] rfl)
set_option maxHeartbeats 4000000 in
set_option maxRecDepth 100000 in
theorem tX0_put (l : Launch) (G : GX) (nA : Nat) (q0 : Nat) (q0_items : Nat) (k0_items : Nat → Int32) (k0_size : Int32) (p1 : Int32) (res : (Nat → Int32) × Int32) (hf : fX0_put nA k0_items k0_size p1 = some res) : Ct l yX0_put wsX0_put rmX0_put G [.ref q0, .int p1] (wdX0_put G nA q0 q0_items k0_items k0_size) (wdX0_put G nA q0 q0_items res.1 res.2) none := by
  refine Ct.of (cc := cX0_put) (nL := 4) (ret := none) (by decide) rfl (Nat.le_of_ble_eq_true rfl) rfl ?_
  intro p e s m below meth c A ls C hP hD hl
  obtain ⟨hx, hb, hml, hown, hts, hr, hlocks, hA, hG⟩ := id C
  have hS : va_S A s.heap s.heap [] := va_S.rf
  unfold fX0_put at hf
  refine lv_iconst (v := (0 : Int32)) hx hb dX0_put_0 (by decide) ?_
  refine lv_istore_n (lv' := [(2, .int (0 : Int32)), (0, .ref q0), (1, .int p1)]) hx hb dX0_put_1 rfl hl (by decide) rfl (fun ls hl => ?_)
  exact wX0_put_2 C nA q0 q0_items p1 res fu k0_items k0_size (0 : Int32) _ _ ls hf hP hD hS (lv_sub hl [1, 2, 0] rfl)
abbrev wdX0_answer (G : GX) (nA : Nat) (q0 : Nat) (q0_items : Nat) (k0_items : Nat → Int32) (k0_size : Int32) : va_W := [(q0, .inr (0, [.ref q0_items, .int k0_size])), (q0_items, .inl (G.2.1, nA, .inl k0_items))]
abbrev rmX0_answer : Room := { frames := 0, cells := 0, slots := 0, locals := 0 }
abbrev glX0_answer (p : Program) (l : Launch) (e : Env) (s : State) (m : MethodId) (args : Array Value) (below : List Frame) (meth : Method) (c : Code) (G : GX) (A : Nat → Prop) (nA : Nat) (q0 : Nat) (q0_items : Nat) (k0_items : Nat → Int32) (k0_size : Int32) (res : Int32) (H : Heap) (locs : List Loc) (pc : Nat) (ls : Array Slot) (st : List Value) : Prop := W p l e rmX0_answer s m args below meth c H locs 0 0 (MQ below (ctQ G A (wdX0_answer G nA q0 q0_items k0_items k0_size) (some (.int res))) args s 0 0 A) (F0 m pc ls st)
set_option maxRecDepth 20000 in
theorem mX0_answer_0 : Cond.fieldLink RX0 9 "SchubertDesk$Ascending" "size" "I" ∈ wsX0_answer := by decide +kernel
set_option maxRecDepth 20000 in
theorem mX0_answer_1 : Cond.fieldLink RX0 21 "SchubertDesk$Ascending" "items" "[I" ∈ wsX0_answer := by decide +kernel
set_option maxRecDepth 20000 in
theorem nX0_answer_X0 : ∀ w ∈ u_ws RX0 TX0 2, w ∈ wsX0_answer := by decide +kernel
set_option maxHeartbeats 4000000 in
set_option maxRecDepth 100000 in
theorem tX0_answer (l : Launch) (G : GX) (nA : Nat) (q0 : Nat) (q0_items : Nat) (k0_items : Nat → Int32) (k0_size : Int32) (p1 : Int32) (res : Int32) (hf : fX0_answer nA k0_items k0_size p1 = some res) : Ct l yX0_answer wsX0_answer rmX0_answer G [.ref q0, .int p1] (wdX0_answer G nA q0 q0_items k0_items k0_size) (wdX0_answer G nA q0 q0_items k0_items k0_size) (some (.int res)) := by
  refine Ct.of (cc := cX0_answer) (nL := 2) (ret := (some .int)) (by decide) rfl (Nat.le_of_ble_eq_true rfl) rfl ?_
  intro p e s m below meth c A ls C hP hD hl
  obtain ⟨hx, hb, hml, hown, hts, hr, hlocks, hA, hG⟩ := id C
  have hS : va_S A s.heap s.heap [] := va_S.rf
  unfold fX0_answer at hf
  refine lv_iload_n hx hb dX0_answer_0 rfl (lv_at hl 1 rfl) ?_
  refine lv_iconst (v := (-1 : Int32)) hx hb dX0_answer_1 (by decide) ?_
  refine lv_icmp_ne (tgt := 10) hx hb dX0_answer_2 (by decide) (fun hc => ?_) (fun hc => ?_)
  · have hf := if_f hc hf
    refine lv_iload_n hx hb dX0_answer_10 rfl (lv_at hl 1 rfl) ?_
    refine lv_if_lt (tgt := 40) hx hb dX0_answer_11 (by decide) (fun hc => ?_) (fun hc => ?_)
    · have hf := if_t hc hf
      refine lv_bipush (v := (-9 : Int32)) hx hb dX0_answer_40 (by decide) ?_
      cases hf
      exact rt_i C hP hD hS dX0_answer_42
    · have hf := if_f hc hf
      refine lv_iload_n hx hb dX0_answer_14 rfl (lv_at hl 1 rfl) ?_
      refine lv_aload_n hx hb dX0_answer_15 rfl (lv_at hl 0 rfl) ?_
      refine va_get (D := G.1) (ci := 0) (v := .int k0_size) (C := RX0) (T := TX0) (N := 2) hx hb hts nX0_answer_X0 hown hG.1 hP 0 rfl rfl 1 (by decide) (hts _ mX0_answer_0) (fun _ h9 => h9) rfl dX0_answer_16 ?_
      refine lv_icmp_ge (tgt := 40) hx hb dX0_answer_19 (by decide) (fun hc => ?_) (fun hc => ?_)
      · have hf := if_t hc hf
        refine lv_bipush (v := (-9 : Int32)) hx hb dX0_answer_40 (by decide) ?_
        cases hf
        exact rt_i C hP hD hS dX0_answer_42
      · have hf := if_f hc hf
        refine lv_iload_n hx hb dX0_answer_22 rfl (lv_at hl 1 rfl) ?_
        refine lv_aload_n hx hb dX0_answer_23 rfl (lv_at hl 0 rfl) ?_
        refine va_get (D := G.1) (ci := 0) (v := .ref q0_items) (C := RX0) (T := TX0) (N := 2) hx hb hts nX0_answer_X0 hown hG.1 hP 0 rfl rfl 0 (by decide) (hts _ mX0_answer_1) (fun _ h9 => h9) rfl dX0_answer_24 ?_
        refine va_alen (v := (Int32.ofNat nA)) hx hb hG.1 hP 1 0 rfl rfl rfl dX0_answer_27 ?_
        refine lv_icmp_ge (tgt := 40) hx hb dX0_answer_28 (by decide) (fun hc => ?_) (fun hc => ?_)
        · have hf := if_t hc hf
          refine lv_bipush (v := (-9 : Int32)) hx hb dX0_answer_40 (by decide) ?_
          cases hf
          exact rt_i C hP hD hS dX0_answer_42
        · have hf := if_f hc hf
          refine lv_aload_n hx hb dX0_answer_31 rfl (lv_at hl 0 rfl) ?_
          refine va_get (D := G.1) (ci := 0) (v := .ref q0_items) (C := RX0) (T := TX0) (N := 2) hx hb hts nX0_answer_X0 hown hG.1 hP 0 rfl rfl 0 (by decide) (hts _ mX0_answer_1) (fun _ h9 => h9) rfl dX0_answer_32 ?_
          refine lv_iload_n hx hb dX0_answer_35 rfl (lv_at hl 1 rfl) ?_
          obtain ⟨hin, hf⟩ := gI_use hf
          refine va_iald hx hb hG.1 hP 1 0 rfl rfl hin dX0_answer_36 ?_
          refine lv_goto (tgt := 42) hx hb dX0_answer_37 (by decide) ?_
          cases hf
          exact rt_i C hP hD hS dX0_answer_42
  · have hf := if_t hc hf
    refine lv_aload_n hx hb dX0_answer_5 rfl (lv_at hl 0 rfl) ?_
    refine va_get (D := G.1) (ci := 0) (v := .int k0_size) (C := RX0) (T := TX0) (N := 2) hx hb hts nX0_answer_X0 hown hG.1 hP 0 rfl rfl 1 (by decide) (hts _ mX0_answer_0) (fun _ h9 => h9) rfl dX0_answer_6 ?_
    cases hf
    exact rt_i C hP hD hS dX0_answer_9
abbrev wdX1_stayInPlace (G : GX) (q0 : Nat) (q0_row : Nat) (k0_row : Nat → Int32) : va_W := [(q0, .inr (1, [.ref q0_row])), (q0_row, .inl (G.2.1, 10, .inl k0_row))]
abbrev rmX1_stayInPlace : Room := { frames := 0, cells := 0, slots := 0, locals := 0 }
abbrev glX1_stayInPlace (p : Program) (l : Launch) (e : Env) (s : State) (m : MethodId) (args : Array Value) (below : List Frame) (meth : Method) (c : Code) (G : GX) (A : Nat → Prop) (q0 : Nat) (q0_row : Nat) (res : (Nat → Int32)) (H : Heap) (locs : List Loc) (pc : Nat) (ls : Array Slot) (st : List Value) : Prop := W p l e rmX1_stayInPlace s m args below meth c H locs 0 0 (MQ below (ctQ G A (wdX1_stayInPlace G q0 q0_row res) none) args s 0 0 A) (F0 m pc ls st)
set_option maxRecDepth 20000 in
theorem mX1_stayInPlace_0 : Cond.fieldLink RX1 9 "SchubertDesk$Digits" "row" "[I" ∈ wsX1_stayInPlace := by decide +kernel
set_option maxRecDepth 20000 in
theorem nX1_stayInPlace_X1 : ∀ w ∈ u_ws RX1 TX1 1, w ∈ wsX1_stayInPlace := by decide +kernel
set_option maxHeartbeats 4000000 in
set_option maxRecDepth 100000 in
theorem wX1_stayInPlace_2 {p : Program} {l : Launch} {e : Env} {s : State} {m : MethodId} {args : Array Value} {below : List Frame} {meth : Method} {c : Code} {G : GX} {A : Nat → Prop} (C : Cx p s m args meth c cX1_stayInPlace 2 none wsX1_stayInPlace RX1 G A) (q0 : Nat) (q0_row : Nat) (res : (Nat → Int32)) (n : Nat) : ∀ (k0_row : Nat → Int32) (x1 : Int32) (H : Heap) (locs : List Loc) (ls : Array Slot), fX1_stayInPlace_L2 n k0_row x1 = some res → va_P G.1 vwCl (wdX1_stayInPlace G q0 q0_row k0_row) H → va_D A (wdX1_stayInPlace G q0 q0_row k0_row) → va_S A s.heap H locs → lv_has ls 2 [(0, .ref q0), (1, .int x1)] → glX1_stayInPlace p l e s m args below meth c G A q0 q0_row res H locs 2 ls [] := by
  obtain ⟨hx, hb, hml, hown, hts, hr, hlocks, hA, hG⟩ := id C
  induction n with
  | zero => intro k0_row x1 H locs ls hf hP hD hS hl; cases hf
  | succ n ih =>
    intro k0_row x1 H locs ls hf hP hD hS hl
    simp only [fX1_stayInPlace_L2] at hf
    refine lv_iload_n hx hb dX1_stayInPlace_2 rfl (lv_at hl 1 rfl) ?_
    refine lv_bipush (v := (9 : Int32)) hx hb dX1_stayInPlace_3 (by decide) ?_
    refine lv_icmp_gt (tgt := 21) hx hb dX1_stayInPlace_5 (by decide) (fun hc => ?_) (fun hc => ?_)
    · have hf := if_t hc hf
      cases hf
      exact rt_v C hP hD hS dX1_stayInPlace_21
    · have hf := if_f hc hf
      refine lv_aload_n hx hb dX1_stayInPlace_8 rfl (lv_at hl 0 rfl) ?_
      refine va_get (D := G.1) (ci := 1) (v := .ref q0_row) (C := RX1) (T := TX1) (N := 1) hx hb hts nX1_stayInPlace_X1 hown hG.1 hP 0 rfl rfl 0 (by decide) (hts _ mX1_stayInPlace_0) (fun _ h9 => h9) rfl dX1_stayInPlace_9 ?_
      refine lv_iload_n hx hb dX1_stayInPlace_12 rfl (lv_at hl 1 rfl) ?_
      refine lv_iload_n hx hb dX1_stayInPlace_13 rfl (lv_at hl 1 rfl) ?_
      obtain ⟨hin, hf⟩ := pI_use hf
      refine va_iast hx hb hG.1 hP hD hS 1 0 rfl rfl hin dX1_stayInPlace_14 (fun H locs hP hD hS => ?_)
      have hP : va_P G.1 vwCl (wdX1_stayInPlace G q0 q0_row (upd k0_row (x1).toNatClampNeg x1)) H := hP
      have hD : va_D A (wdX1_stayInPlace G q0 q0_row (upd k0_row (x1).toNatClampNeg x1)) := hD
      obtain ⟨y2, ey2⟩ : ∃ z : Int32, z = x1 + (1 : Int32) := ⟨_, rfl⟩
      have hf := nm_use ey2 hf
      refine lv_iinc (v := y2) (lv' := [(1, .int y2), (0, .ref q0)]) hx hb dX1_stayInPlace_15 hl (k := 1) rfl (by rw [ey2]; rfl) (by decide) rfl (fun ls hl => ?_)
      refine lv_goto (tgt := 2) hx hb dX1_stayInPlace_18 (by decide) ?_
      exact ih (upd k0_row (x1).toNatClampNeg x1) y2 _ _ ls hf hP hD hS (lv_sub hl [1, 0] rfl)
set_option maxHeartbeats 4000000 in
set_option maxRecDepth 100000 in
theorem tX1_stayInPlace (l : Launch) (G : GX) (q0 : Nat) (q0_row : Nat) (k0_row : Nat → Int32) (res : (Nat → Int32)) (hf : fX1_stayInPlace k0_row = some res) : Ct l yX1_stayInPlace wsX1_stayInPlace rmX1_stayInPlace G [.ref q0] (wdX1_stayInPlace G q0 q0_row k0_row) (wdX1_stayInPlace G q0 q0_row res) none := by
  refine Ct.of (cc := cX1_stayInPlace) (nL := 2) (ret := none) (by decide) rfl (Nat.le_of_ble_eq_true rfl) rfl ?_
  intro p e s m below meth c A ls C hP hD hl
  obtain ⟨hx, hb, hml, hown, hts, hr, hlocks, hA, hG⟩ := id C
  have hS : va_S A s.heap s.heap [] := va_S.rf
  unfold fX1_stayInPlace at hf
  refine lv_iconst (v := (1 : Int32)) hx hb dX1_stayInPlace_0 (by decide) ?_
  refine lv_istore_n (lv' := [(1, .int (1 : Int32)), (0, .ref q0)]) hx hb dX1_stayInPlace_1 rfl hl (by decide) rfl (fun ls hl => ?_)
  exact wX1_stayInPlace_2 C q0 q0_row res fu k0_row (1 : Int32) _ _ ls hf hP hD hS (lv_sub hl [1, 0] rfl)
abbrev wdX1_read (G : GX) (q0 : Nat) (q0_row : Nat) (k0_row : Nat → Int32) : va_W := [(q0, .inr (1, [.ref q0_row])), (q0_row, .inl (G.2.1, 10, .inl k0_row))]
abbrev rmX1_read : Room := { frames := 1, cells := 0, slots := 0, locals := 21 }
abbrev glX1_read (p : Program) (l : Launch) (e : Env) (s : State) (m : MethodId) (args : Array Value) (below : List Frame) (meth : Method) (c : Code) (G : GX) (A : Nat → Prop) (q0 : Nat) (q0_row : Nat) (res : Int32 × (Nat → Int32)) (H : Heap) (locs : List Loc) (pc : Nat) (ls : Array Slot) (st : List Value) : Prop := W p l e rmX1_read s m args below meth c H locs 0 0 (MQ below (ctQ G A (wdX1_read G q0 q0_row res.2) (some (.int res.1))) args s 0 0 A) (F0 m pc ls st)
set_option maxRecDepth 20000 in
theorem mX1_read_0 : Cond.fieldLink RX1 9 "SchubertDesk$Digits" "row" "[I" ∈ wsX1_read := by decide +kernel
set_option maxRecDepth 20000 in
theorem mX1_read_1 : Cond.constant RX1 15 (987654321) ∈ wsX1_read := by decide +kernel
set_option maxRecDepth 20000 in
theorem nX1_read_X1 : ∀ w ∈ u_ws RX1 TX1 1, w ∈ wsX1_read := by decide +kernel
set_option maxHeartbeats 4000000 in
set_option maxRecDepth 100000 in
theorem wX1_read_50 {p : Program} {l : Launch} {e : Env} {s : State} {m : MethodId} {args : Array Value} {below : List Frame} {meth : Method} {c : Code} {G : GX} {A : Nat → Prop} (C : Cx p s m args meth c cX1_read 7 (some .boolean) wsX1_read RX1 G A) (q0 : Nat) (q0_row : Nat) (p1 : Int32) (res : Int32 × (Nat → Int32)) (n : Nat) : ∀ (k0_row : Nat → Int32) (x2 : Int32) (x3 : Int32) (x4 : Int32) (x5 : Int32) (H : Heap) (locs : List Loc) (ls : Array Slot), fX1_read_L50 p1 n k0_row x2 x3 x4 x5 = some res → va_P G.1 vwCl (wdX1_read G q0 q0_row k0_row) H → va_D A (wdX1_read G q0 q0_row k0_row) → va_S A s.heap H locs → lv_has ls 7 [(0, .ref q0), (2, .int x2), (3, .int x3), (4, .int x4), (5, .int x5)] → glX1_read p l e s m args below meth c G A q0 q0_row res H locs 50 ls [] := by
  obtain ⟨hx, hb, hml, hown, hts, hr, hlocks, hA, hG⟩ := id C
  induction n with
  | zero => intro k0_row x2 x3 x4 x5 H locs ls hf hP hD hS hl; cases hf
  | succ n ih =>
    intro k0_row x2 x3 x4 x5 H locs ls hf hP hD hS hl
    simp only [fX1_read_L50] at hf
    refine lv_iload hx hb dX1_read_50 (lv_at hl 4 rfl) ?_
    refine lv_iconst (v := (1 : Int32)) hx hb dX1_read_52 (by decide) ?_
    refine lv_icmp_lt (tgt := 116) hx hb dX1_read_53 (by decide) (fun hc => ?_) (fun hc => ?_)
    · have hf := if_t hc hf
      refine lv_iconst (v := (1 : Int32)) hx hb dX1_read_116 (by decide) ?_
      cases hf
      exact rt_z C (Or.inr rfl) hP hD hS dX1_read_117
    · have hf := if_f hc hf
      refine lv_iload hx hb dX1_read_56 (lv_at hl 3 rfl) ?_
      refine lv_bipush (v := (10 : Int32)) hx hb dX1_read_58 (by decide) ?_
      refine lv_irem hx hb dX1_read_60 (by decide) ?_
      refine lv_topi (fun y1 ey1 => ?_)
      have hf := nm_use ey1 hf
      refine lv_istore (lv' := [(6, .int y1), (0, .ref q0), (2, .int x2), (3, .int x3), (4, .int x4), (5, .int x5)]) hx hb dX1_read_61 hl (by decide) rfl (fun ls hl => ?_)
      refine lv_iload hx hb dX1_read_63 (lv_at hl 0 rfl) ?_
      refine lv_iconst (v := (1 : Int32)) hx hb dX1_read_65 (by decide) ?_
      refine lv_icmp_lt (tgt := 85) hx hb dX1_read_66 (by decide) (fun hc => ?_) (fun hc => ?_)
      · have hf := if_t hc hf
        refine lv_iconst (v := (0 : Int32)) hx hb dX1_read_85 (by decide) ?_
        cases hf
        exact rt_z C (Or.inl rfl) hP hD hS dX1_read_86
      · have hf := if_f hc hf
        refine lv_iload hx hb dX1_read_69 (lv_at hl 0 rfl) ?_
        refine lv_iload_n hx hb dX1_read_71 rfl (lv_at hl 2 rfl) ?_
        refine lv_icmp_gt (tgt := 85) hx hb dX1_read_72 (by decide) (fun hc => ?_) (fun hc => ?_)
        · have hf := if_t hc hf
          refine lv_iconst (v := (0 : Int32)) hx hb dX1_read_85 (by decide) ?_
          cases hf
          exact rt_z C (Or.inl rfl) hP hD hS dX1_read_86
        · have hf := if_f hc hf
          refine lv_iload_n hx hb dX1_read_75 rfl (lv_at hl 3 rfl) ?_
          refine lv_iload hx hb dX1_read_76 (lv_at hl 0 rfl) ?_
          refine lv_ishr hx hb dX1_read_78 ?_
          refine lv_iconst (v := (1 : Int32)) hx hb dX1_read_79 (by decide) ?_
          refine lv_iand hx hb dX1_read_80 ?_
          refine lv_iconst (v := (1 : Int32)) hx hb dX1_read_81 (by decide) ?_
          refine lv_icmp_ne (tgt := 87) hx hb dX1_read_82 (by decide) (fun hc => ?_) (fun hc => ?_)
          · have hf := if_f hc hf
            refine lv_iload_n hx hb dX1_read_87 rfl (lv_at hl 3 rfl) ?_
            refine lv_iconst (v := (1 : Int32)) hx hb dX1_read_88 (by decide) ?_
            refine lv_iload hx hb dX1_read_89 (lv_at hl 0 rfl) ?_
            refine lv_ishl hx hb dX1_read_91 ?_
            refine lv_ior hx hb dX1_read_92 ?_
            refine lv_topi (fun y2 ey2 => ?_)
            have hf := nm_use ey2 hf
            refine lv_istore_n (lv' := [(3, .int y2), (6, .int y1), (0, .ref q0), (2, .int x2), (4, .int x4), (5, .int x5)]) hx hb dX1_read_93 rfl hl (by decide) rfl (fun ls hl => ?_)
            refine lv_aload_n hx hb dX1_read_94 rfl (lv_at hl 2 rfl) ?_
            refine va_get (D := G.1) (ci := 1) (v := .ref q0_row) (C := RX1) (T := TX1) (N := 1) hx hb hts nX1_read_X1 hown hG.1 hP 0 rfl rfl 0 (by decide) (hts _ mX1_read_0) (fun _ h9 => h9) rfl dX1_read_95 ?_
            refine lv_iload hx hb dX1_read_98 (lv_at hl 5 rfl) ?_
            refine lv_iload hx hb dX1_read_100 (lv_at hl 1 rfl) ?_
            obtain ⟨hin, hf⟩ := pI_use hf
            refine va_iast hx hb hG.1 hP hD hS 1 0 rfl rfl hin dX1_read_102 (fun H locs hP hD hS => ?_)
            have hP : va_P G.1 vwCl (wdX1_read G q0 q0_row (upd k0_row (x5).toNatClampNeg y1)) H := hP
            have hD : va_D A (wdX1_read G q0 q0_row (upd k0_row (x5).toNatClampNeg y1)) := hD
            refine lv_iload hx hb dX1_read_103 (lv_at hl 4 rfl) ?_
            refine lv_bipush (v := (10 : Int32)) hx hb dX1_read_105 (by decide) ?_
            refine lv_idiv hx hb dX1_read_107 (by decide) ?_
            refine lv_topi (fun y4 ey4 => ?_)
            have hf := nm_use ey4 hf
            refine lv_istore (lv' := [(4, .int y4), (3, .int y2), (6, .int y1), (0, .ref q0), (2, .int x2), (5, .int x5)]) hx hb dX1_read_108 hl (by decide) rfl (fun ls hl => ?_)
            obtain ⟨y5, ey5⟩ : ∃ z : Int32, z = x5 + (-1 : Int32) := ⟨_, rfl⟩
            have hf := nm_use ey5 hf
            refine lv_iinc (v := y5) (lv' := [(5, .int y5), (4, .int y4), (3, .int y2), (6, .int y1), (0, .ref q0), (2, .int x2)]) hx hb dX1_read_110 hl (k := 5) rfl (by rw [ey5]; rfl) (by decide) rfl (fun ls hl => ?_)
            refine lv_goto (tgt := 50) hx hb dX1_read_113 (by decide) ?_
            exact ih (upd k0_row (x5).toNatClampNeg y1) x2 y2 y4 y5 _ _ ls hf hP hD hS (lv_sub hl [4, 5, 2, 1, 0] rfl)
          · have hf := if_t hc hf
            refine lv_iconst (v := (0 : Int32)) hx hb dX1_read_85 (by decide) ?_
            cases hf
            exact rt_z C (Or.inl rfl) hP hD hS dX1_read_86
set_option maxHeartbeats 4000000 in
set_option maxRecDepth 100000 in
theorem wX1_read_38 {p : Program} {l : Launch} {e : Env} {s : State} {m : MethodId} {args : Array Value} {below : List Frame} {meth : Method} {c : Code} {G : GX} {A : Nat → Prop} (C : Cx p s m args meth c cX1_read 7 (some .boolean) wsX1_read RX1 G A) (q0 : Nat) (q0_row : Nat) (p1 : Int32) (res : Int32 × (Nat → Int32)) : ∀ (k0_row : Nat → Int32) (x2 : Int32) (H : Heap) (locs : List Loc) (ls : Array Slot), fX1_read_b38 p1 k0_row x2 = some res → va_P G.1 vwCl (wdX1_read G q0 q0_row k0_row) H → va_D A (wdX1_read G q0 q0_row k0_row) → va_S A s.heap H locs → lv_has ls 7 [(0, .ref q0), (1, .int p1), (2, .int x2)] → glX1_read p l e s m args below meth c G A q0 q0_row res H locs 38 ls [] := by
  obtain ⟨hx, hb, hml, hown, hts, hr, hlocks, hA, hG⟩ := id C
  intro k0_row x2 H locs ls hf hP hD hS hl
  unfold fX1_read_b38 at hf
  refine lv_aload_n hx hb dX1_read_38 rfl (lv_at hl 0 rfl) ?_
  obtain ⟨r6, hr6, hf⟩ := bd_use hf
  refine cl_V (wn := (wdX1_read G q0 q0_row r6)) (st1 := []) C hP hD hS (tX1_stayInPlace l G q0 q0_row k0_row r6 hr6) (cwV 0 hts gX1_read_X1_stayInPlace rfl rfl rfl (by decide +kernel) ⟨Nat.le_of_ble_eq_true rfl, Nat.le_of_ble_eq_true rfl⟩) [0, 1] [] [0, 1] rfl rfl rfl rfl (by decide) rfl rfl (ci := 1) (q0 := 0) rfl rfl rfl rfl hl.1 rfl rfl (Nat.le_of_ble_eq_true rfl) dX1_read_39 (fun H locs hP hD hS => ?_)
  refine lv_iconst (v := (0 : Int32)) hx hb dX1_read_42 (by decide) ?_
  refine lv_istore_n (lv' := [(3, .int (0 : Int32)), (0, .ref q0), (1, .int p1), (2, .int x2)]) hx hb dX1_read_43 rfl hl (by decide) rfl (fun ls hl => ?_)
  refine lv_iload_n hx hb dX1_read_44 rfl (lv_at hl 2 rfl) ?_
  refine lv_istore (lv' := [(4, .int p1), (3, .int (0 : Int32)), (0, .ref q0), (1, .int p1), (2, .int x2)]) hx hb dX1_read_45 hl (by decide) rfl (fun ls hl => ?_)
  refine lv_iload_n hx hb dX1_read_47 rfl (lv_at hl 4 rfl) ?_
  refine lv_istore (lv' := [(5, .int x2), (4, .int p1), (3, .int (0 : Int32)), (0, .ref q0), (1, .int p1), (2, .int x2)]) hx hb dX1_read_48 hl (by decide) rfl (fun ls hl => ?_)
  exact wX1_read_50 C q0 q0_row p1 res fu r6 x2 (0 : Int32) p1 x2 _ _ ls hf hP hD hS (lv_sub hl [3, 5, 2, 1, 0] rfl)
set_option maxHeartbeats 4000000 in
set_option maxRecDepth 100000 in
theorem wX1_read_17 {p : Program} {l : Launch} {e : Env} {s : State} {m : MethodId} {args : Array Value} {below : List Frame} {meth : Method} {c : Code} {G : GX} {A : Nat → Prop} (C : Cx p s m args meth c cX1_read 7 (some .boolean) wsX1_read RX1 G A) (q0 : Nat) (q0_row : Nat) (p1 : Int32) (res : Int32 × (Nat → Int32)) (n : Nat) : ∀ (k0_row : Nat → Int32) (x2 : Int32) (x3 : Int32) (H : Heap) (locs : List Loc) (ls : Array Slot), fX1_read_L17 p1 n k0_row x2 x3 = some res → va_P G.1 vwCl (wdX1_read G q0 q0_row k0_row) H → va_D A (wdX1_read G q0 q0_row k0_row) → va_S A s.heap H locs → lv_has ls 7 [(0, .ref q0), (1, .int p1), (2, .int x2), (3, .int x3)] → glX1_read p l e s m args below meth c G A q0 q0_row res H locs 17 ls [] := by
  obtain ⟨hx, hb, hml, hown, hts, hr, hlocks, hA, hG⟩ := id C
  induction n with
  | zero => intro k0_row x2 x3 H locs ls hf hP hD hS hl; cases hf
  | succ n ih =>
    intro k0_row x2 x3 H locs ls hf hP hD hS hl
    simp only [fX1_read_L17] at hf
    refine lv_iload_n hx hb dX1_read_17 rfl (lv_at hl 3 rfl) ?_
    refine lv_if_le (tgt := 38) hx hb dX1_read_18 (by decide) (fun hc => ?_) (fun hc => ?_)
    · have hf := if_t hc hf
      exact wX1_read_38 C q0 q0_row p1 res k0_row x2 _ _ ls hf hP hD hS (lv_sub hl [0, 1, 2] rfl)
    · have hf := if_f hc hf
      refine lv_iload_n hx hb dX1_read_21 rfl (lv_at hl 2 rfl) ?_
      refine lv_bipush (v := (9 : Int32)) hx hb dX1_read_22 (by decide) ?_
      refine lv_icmp_ge (tgt := 38) hx hb dX1_read_24 (by decide) (fun hc => ?_) (fun hc => ?_)
      · have hf := if_t hc hf
        exact wX1_read_38 C q0 q0_row p1 res k0_row x2 _ _ ls hf hP hD hS (lv_sub hl [0, 1, 2] rfl)
      · have hf := if_f hc hf
        obtain ⟨y7, ey7⟩ : ∃ z : Int32, z = x2 + (1 : Int32) := ⟨_, rfl⟩
        have hf := nm_use ey7 hf
        refine lv_iinc (v := y7) (lv' := [(2, .int y7), (0, .ref q0), (1, .int p1), (3, .int x3)]) hx hb dX1_read_27 hl (k := 2) rfl (by rw [ey7]; rfl) (by decide) rfl (fun ls hl => ?_)
        refine lv_iload_n hx hb dX1_read_30 rfl (lv_at hl 3 rfl) ?_
        refine lv_bipush (v := (10 : Int32)) hx hb dX1_read_31 (by decide) ?_
        refine lv_idiv hx hb dX1_read_33 (by decide) ?_
        refine lv_topi (fun y8 ey8 => ?_)
        have hf := nm_use ey8 hf
        refine lv_istore_n (lv' := [(3, .int y8), (2, .int y7), (0, .ref q0), (1, .int p1)]) hx hb dX1_read_34 rfl hl (by decide) rfl (fun ls hl => ?_)
        refine lv_goto (tgt := 17) hx hb dX1_read_35 (by decide) ?_
        exact ih k0_row y7 y8 _ _ ls hf hP hD hS (lv_sub hl [2, 3, 1, 0] rfl)
set_option maxHeartbeats 4000000 in
set_option maxRecDepth 100000 in
theorem tX1_read (l : Launch) (G : GX) (q0 : Nat) (q0_row : Nat) (k0_row : Nat → Int32) (p1 : Int32) (res : Int32 × (Nat → Int32)) (hf : fX1_read k0_row p1 = some res) : Ct l yX1_read wsX1_read rmX1_read G [.ref q0, .int p1] (wdX1_read G q0 q0_row k0_row) (wdX1_read G q0 q0_row res.2) (some (.int res.1)) := by
  refine Ct.of (cc := cX1_read) (nL := 7) (ret := (some .boolean)) (by decide) rfl (Nat.le_of_ble_eq_true rfl) rfl ?_
  intro p e s m below meth c A ls C hP hD hl
  obtain ⟨hx, hb, hml, hown, hts, hr, hlocks, hA, hG⟩ := id C
  have hS : va_S A s.heap s.heap [] := va_S.rf
  unfold fX1_read at hf
  refine lv_iload_n hx hb dX1_read_0 rfl (lv_at hl 1 rfl) ?_
  refine lv_iconst (v := (1 : Int32)) hx hb dX1_read_1 (by decide) ?_
  refine lv_icmp_lt (tgt := 11) hx hb dX1_read_2 (by decide) (fun hc => ?_) (fun hc => ?_)
  · have hf := if_t hc hf
    refine lv_iconst (v := (0 : Int32)) hx hb dX1_read_11 (by decide) ?_
    cases hf
    exact rt_z C (Or.inl rfl) hP hD hS dX1_read_12
  · have hf := if_f hc hf
    refine lv_iload_n hx hb dX1_read_5 rfl (lv_at hl 1 rfl) ?_
    refine lv_ldc (v := (987654321 : Int32)) hx hb hown (hts _ mX1_read_1) dX1_read_6 ?_
    refine lv_icmp_le (tgt := 13) hx hb dX1_read_8 (by decide) (fun hc => ?_) (fun hc => ?_)
    · have hf := if_t hc hf
      refine lv_iconst (v := (0 : Int32)) hx hb dX1_read_13 (by decide) ?_
      refine lv_istore_n (lv' := [(2, .int (0 : Int32)), (0, .ref q0), (1, .int p1)]) hx hb dX1_read_14 rfl hl (by decide) rfl (fun ls hl => ?_)
      refine lv_iload_n hx hb dX1_read_15 rfl (lv_at hl 2 rfl) ?_
      refine lv_istore_n (lv' := [(3, .int p1), (2, .int (0 : Int32)), (0, .ref q0), (1, .int p1)]) hx hb dX1_read_16 rfl hl (by decide) rfl (fun ls hl => ?_)
      exact wX1_read_17 C q0 q0_row p1 res fu k0_row (0 : Int32) p1 _ _ ls hf hP hD hS (lv_sub hl [2, 3, 1, 0] rfl)
    · have hf := if_f hc hf
      refine lv_iconst (v := (0 : Int32)) hx hb dX1_read_11 (by decide) ?_
      cases hf
      exact rt_z C (Or.inl rfl) hP hD hS dX1_read_12
abbrev wdX1_digit (G : GX) (q0 : Nat) (q0_row : Nat) (k0_row : Nat → Int32) : va_W := [(q0, .inr (1, [.ref q0_row])), (q0_row, .inl (G.2.1, 10, .inl k0_row))]
abbrev rmX1_digit : Room := { frames := 0, cells := 0, slots := 0, locals := 0 }
abbrev glX1_digit (p : Program) (l : Launch) (e : Env) (s : State) (m : MethodId) (args : Array Value) (below : List Frame) (meth : Method) (c : Code) (G : GX) (A : Nat → Prop) (q0 : Nat) (q0_row : Nat) (k0_row : Nat → Int32) (res : Int32) (H : Heap) (locs : List Loc) (pc : Nat) (ls : Array Slot) (st : List Value) : Prop := W p l e rmX1_digit s m args below meth c H locs 0 0 (MQ below (ctQ G A (wdX1_digit G q0 q0_row k0_row) (some (.int res))) args s 0 0 A) (F0 m pc ls st)
set_option maxRecDepth 20000 in
theorem mX1_digit_0 : Cond.fieldLink RX1 9 "SchubertDesk$Digits" "row" "[I" ∈ wsX1_digit := by decide +kernel
set_option maxRecDepth 20000 in
theorem nX1_digit_X1 : ∀ w ∈ u_ws RX1 TX1 1, w ∈ wsX1_digit := by decide +kernel
set_option maxHeartbeats 4000000 in
set_option maxRecDepth 100000 in
theorem tX1_digit (l : Launch) (G : GX) (q0 : Nat) (q0_row : Nat) (k0_row : Nat → Int32) (p1 : Int32) (res : Int32) (hf : fX1_digit k0_row p1 = some res) : Ct l yX1_digit wsX1_digit rmX1_digit G [.ref q0, .int p1] (wdX1_digit G q0 q0_row k0_row) (wdX1_digit G q0 q0_row k0_row) (some (.int res)) := by
  refine Ct.of (cc := cX1_digit) (nL := 2) (ret := (some .int)) (by decide) rfl (Nat.le_of_ble_eq_true rfl) rfl ?_
  intro p e s m below meth c A ls C hP hD hl
  obtain ⟨hx, hb, hml, hown, hts, hr, hlocks, hA, hG⟩ := id C
  have hS : va_S A s.heap s.heap [] := va_S.rf
  unfold fX1_digit at hf
  refine lv_iload_n hx hb dX1_digit_0 rfl (lv_at hl 1 rfl) ?_
  refine lv_iconst (v := (1 : Int32)) hx hb dX1_digit_1 (by decide) ?_
  refine lv_icmp_lt (tgt := 20) hx hb dX1_digit_2 (by decide) (fun hc => ?_) (fun hc => ?_)
  · have hf := if_t hc hf
    refine lv_iload_n hx hb dX1_digit_20 rfl (lv_at hl 1 rfl) ?_
    cases hf
    exact rt_i C hP hD hS dX1_digit_21
  · have hf := if_f hc hf
    refine lv_iload_n hx hb dX1_digit_5 rfl (lv_at hl 1 rfl) ?_
    refine lv_bipush (v := (9 : Int32)) hx hb dX1_digit_6 (by decide) ?_
    refine lv_icmp_gt (tgt := 20) hx hb dX1_digit_8 (by decide) (fun hc => ?_) (fun hc => ?_)
    · have hf := if_t hc hf
      refine lv_iload_n hx hb dX1_digit_20 rfl (lv_at hl 1 rfl) ?_
      cases hf
      exact rt_i C hP hD hS dX1_digit_21
    · have hf := if_f hc hf
      refine lv_aload_n hx hb dX1_digit_11 rfl (lv_at hl 0 rfl) ?_
      refine va_get (D := G.1) (ci := 1) (v := .ref q0_row) (C := RX1) (T := TX1) (N := 1) hx hb hts nX1_digit_X1 hown hG.1 hP 0 rfl rfl 0 (by decide) (hts _ mX1_digit_0) (fun _ h9 => h9) rfl dX1_digit_12 ?_
      refine lv_iload_n hx hb dX1_digit_15 rfl (lv_at hl 1 rfl) ?_
      obtain ⟨hin, hf⟩ := gI_use hf
      refine va_iald hx hb hG.1 hP 1 0 rfl rfl hin dX1_digit_16 ?_
      refine lv_goto (tgt := 21) hx hb dX1_digit_17 (by decide) ?_
      cases hf
      exact rt_i C hP hD hS dX1_digit_21
abbrev wdX1_put (G : GX) (q0 : Nat) (q0_row : Nat) (k0_row : Nat → Int32) : va_W := [(q0, .inr (1, [.ref q0_row])), (q0_row, .inl (G.2.1, 10, .inl k0_row))]
abbrev rmX1_put : Room := { frames := 0, cells := 0, slots := 0, locals := 0 }
abbrev glX1_put (p : Program) (l : Launch) (e : Env) (s : State) (m : MethodId) (args : Array Value) (below : List Frame) (meth : Method) (c : Code) (G : GX) (A : Nat → Prop) (q0 : Nat) (q0_row : Nat) (res : (Nat → Int32)) (H : Heap) (locs : List Loc) (pc : Nat) (ls : Array Slot) (st : List Value) : Prop := W p l e rmX1_put s m args below meth c H locs 0 0 (MQ below (ctQ G A (wdX1_put G q0 q0_row res) none) args s 0 0 A) (F0 m pc ls st)
set_option maxRecDepth 20000 in
theorem mX1_put_0 : Cond.fieldLink RX1 9 "SchubertDesk$Digits" "row" "[I" ∈ wsX1_put := by decide +kernel
set_option maxRecDepth 20000 in
theorem nX1_put_X1 : ∀ w ∈ u_ws RX1 TX1 1, w ∈ wsX1_put := by decide +kernel
set_option maxHeartbeats 4000000 in
set_option maxRecDepth 100000 in
theorem tX1_put (l : Launch) (G : GX) (q0 : Nat) (q0_row : Nat) (k0_row : Nat → Int32) (p1 : Int32) (p2 : Int32) (res : (Nat → Int32)) (hf : fX1_put k0_row p1 p2 = some res) : Ct l yX1_put wsX1_put rmX1_put G [.ref q0, .int p1, .int p2] (wdX1_put G q0 q0_row k0_row) (wdX1_put G q0 q0_row res) none := by
  refine Ct.of (cc := cX1_put) (nL := 3) (ret := none) (by decide) rfl (Nat.le_of_ble_eq_true rfl) rfl ?_
  intro p e s m below meth c A ls C hP hD hl
  obtain ⟨hx, hb, hml, hown, hts, hr, hlocks, hA, hG⟩ := id C
  have hS : va_S A s.heap s.heap [] := va_S.rf
  unfold fX1_put at hf
  refine lv_iload_n hx hb dX1_put_0 rfl (lv_at hl 1 rfl) ?_
  refine lv_iconst (v := (1 : Int32)) hx hb dX1_put_1 (by decide) ?_
  refine lv_icmp_lt (tgt := 18) hx hb dX1_put_2 (by decide) (fun hc => ?_) (fun hc => ?_)
  · have hf := if_t hc hf
    cases hf
    exact rt_v C hP hD hS dX1_put_18
  · have hf := if_f hc hf
    refine lv_iload_n hx hb dX1_put_5 rfl (lv_at hl 1 rfl) ?_
    refine lv_bipush (v := (9 : Int32)) hx hb dX1_put_6 (by decide) ?_
    refine lv_icmp_gt (tgt := 18) hx hb dX1_put_8 (by decide) (fun hc => ?_) (fun hc => ?_)
    · have hf := if_t hc hf
      cases hf
      exact rt_v C hP hD hS dX1_put_18
    · have hf := if_f hc hf
      refine lv_aload_n hx hb dX1_put_11 rfl (lv_at hl 0 rfl) ?_
      refine va_get (D := G.1) (ci := 1) (v := .ref q0_row) (C := RX1) (T := TX1) (N := 1) hx hb hts nX1_put_X1 hown hG.1 hP 0 rfl rfl 0 (by decide) (hts _ mX1_put_0) (fun _ h9 => h9) rfl dX1_put_12 ?_
      refine lv_iload_n hx hb dX1_put_15 rfl (lv_at hl 1 rfl) ?_
      refine lv_iload_n hx hb dX1_put_16 rfl (lv_at hl 2 rfl) ?_
      obtain ⟨hin, hf⟩ := pI_use hf
      refine va_iast hx hb hG.1 hP hD hS 1 0 rfl rfl hin dX1_put_17 (fun H locs hP hD hS => ?_)
      have hP : va_P G.1 vwCl (wdX1_put G q0 q0_row (upd k0_row (p1).toNatClampNeg p2)) H := hP
      have hD : va_D A (wdX1_put G q0 q0_row (upd k0_row (p1).toNatClampNeg p2)) := hD
      cases hf
      exact rt_v C hP hD hS dX1_put_18
abbrev wdX1_exchange (G : GX) (q0 : Nat) (q0_row : Nat) (k0_row : Nat → Int32) : va_W := [(q0, .inr (1, [.ref q0_row])), (q0_row, .inl (G.2.1, 10, .inl k0_row))]
abbrev rmX1_exchange : Room := { frames := 1, cells := 0, slots := 0, locals := 22 }
abbrev glX1_exchange (p : Program) (l : Launch) (e : Env) (s : State) (m : MethodId) (args : Array Value) (below : List Frame) (meth : Method) (c : Code) (G : GX) (A : Nat → Prop) (q0 : Nat) (q0_row : Nat) (res : (Nat → Int32)) (H : Heap) (locs : List Loc) (pc : Nat) (ls : Array Slot) (st : List Value) : Prop := W p l e rmX1_exchange s m args below meth c H locs 0 0 (MQ below (ctQ G A (wdX1_exchange G q0 q0_row res) none) args s 0 0 A) (F0 m pc ls st)
set_option maxHeartbeats 4000000 in
set_option maxRecDepth 100000 in
theorem tX1_exchange (l : Launch) (G : GX) (q0 : Nat) (q0_row : Nat) (k0_row : Nat → Int32) (p1 : Int32) (p2 : Int32) (res : (Nat → Int32)) (hf : fX1_exchange k0_row p1 p2 = some res) : Ct l yX1_exchange wsX1_exchange rmX1_exchange G [.ref q0, .int p1, .int p2] (wdX1_exchange G q0 q0_row k0_row) (wdX1_exchange G q0 q0_row res) none := by
  refine Ct.of (cc := cX1_exchange) (nL := 4) (ret := none) (by decide) rfl (Nat.le_of_ble_eq_true rfl) rfl ?_
  intro p e s m below meth c A ls C hP hD hl
  obtain ⟨hx, hb, hml, hown, hts, hr, hlocks, hA, hG⟩ := id C
  have hS : va_S A s.heap s.heap [] := va_S.rf
  unfold fX1_exchange at hf
  refine lv_aload_n hx hb dX1_exchange_0 rfl (lv_at hl 0 rfl) ?_
  refine lv_iload_n hx hb dX1_exchange_1 rfl (lv_at hl 1 rfl) ?_
  obtain ⟨r1, hr1, hf⟩ := bd_use hf
  refine cl_V (wn := (wdX1_exchange G q0 q0_row k0_row)) (st1 := [.int r1]) C hP hD hS (tX1_digit l G q0 q0_row k0_row p1 r1 hr1) (cwV 1 hts gX1_exchange_X1_digit rfl rfl rfl (by decide +kernel) ⟨Nat.le_of_ble_eq_true rfl, Nat.le_of_ble_eq_true rfl⟩) [0, 1] [] [0, 1] rfl rfl rfl rfl (by decide) rfl rfl (ci := 1) (q0 := 0) rfl rfl rfl rfl hl.1 rfl rfl (Nat.le_of_ble_eq_true rfl) dX1_exchange_2 (fun H locs hP hD hS => ?_)
  refine lv_istore_n (lv' := [(3, .int r1), (0, .ref q0), (1, .int p1), (2, .int p2)]) hx hb dX1_exchange_5 rfl hl (by decide) rfl (fun ls hl => ?_)
  refine lv_aload_n hx hb dX1_exchange_6 rfl (lv_at hl 1 rfl) ?_
  refine lv_iload_n hx hb dX1_exchange_7 rfl (lv_at hl 2 rfl) ?_
  refine lv_aload_n hx hb dX1_exchange_8 rfl (lv_at hl 1 rfl) ?_
  refine lv_iload_n hx hb dX1_exchange_9 rfl (lv_at hl 3 rfl) ?_
  obtain ⟨r2, hr2, hf⟩ := bd_use hf
  refine cl_V (wn := (wdX1_exchange G q0 q0_row k0_row)) (st1 := [.int r2, .int p1, .ref q0]) C hP hD hS (tX1_digit l G q0 q0_row k0_row p2 r2 hr2) (cwV 1 hts gX1_exchange_X1_digit rfl rfl rfl (by decide +kernel) ⟨Nat.le_of_ble_eq_true rfl, Nat.le_of_ble_eq_true rfl⟩) [0, 1] [] [0, 1] rfl rfl rfl rfl (by decide) rfl rfl (ci := 1) (q0 := 0) rfl rfl rfl rfl hl.1 rfl rfl (Nat.le_of_ble_eq_true rfl) dX1_exchange_10 (fun H locs hP hD hS => ?_)
  obtain ⟨r3, hr3, hf⟩ := bd_use hf
  refine cl_V (wn := (wdX1_exchange G q0 q0_row r3)) (st1 := []) C hP hD hS (tX1_put l G q0 q0_row k0_row p1 r2 r3 hr3) (cwV 2 hts gX1_exchange_X1_put rfl rfl rfl (by decide +kernel) ⟨Nat.le_of_ble_eq_true rfl, Nat.le_of_ble_eq_true rfl⟩) [0, 1] [] [0, 1] rfl rfl rfl rfl (by decide) rfl rfl (ci := 1) (q0 := 0) rfl rfl rfl rfl hl.1 rfl rfl (Nat.le_of_ble_eq_true rfl) dX1_exchange_13 (fun H locs hP hD hS => ?_)
  refine lv_aload_n hx hb dX1_exchange_16 rfl (lv_at hl 1 rfl) ?_
  refine lv_iload_n hx hb dX1_exchange_17 rfl (lv_at hl 3 rfl) ?_
  refine lv_iload_n hx hb dX1_exchange_18 rfl (lv_at hl 0 rfl) ?_
  obtain ⟨r4, hr4, hf⟩ := bd_use hf
  refine cl_V (wn := (wdX1_exchange G q0 q0_row r4)) (st1 := []) C hP hD hS (tX1_put l G q0 q0_row r3 p2 r1 r4 hr4) (cwV 2 hts gX1_exchange_X1_put rfl rfl rfl (by decide +kernel) ⟨Nat.le_of_ble_eq_true rfl, Nat.le_of_ble_eq_true rfl⟩) [0, 1] [] [0, 1] rfl rfl rfl rfl (by decide) rfl rfl (ci := 1) (q0 := 0) rfl rfl rfl rfl hl.1 rfl rfl (Nat.le_of_ble_eq_true rfl) dX1_exchange_19 (fun H locs hP hD hS => ?_)
  cases hf
  exact rt_v C hP hD hS dX1_exchange_22
abbrev wdX1_isSame (G : GX) (q0 : Nat) (q0_row : Nat) (q1 : Nat) (q1_row : Nat) (k0_row : Nat → Int32) (k1_row : Nat → Int32) : va_W := [(q0, .inr (1, [.ref q0_row])), (q0_row, .inl (G.2.1, 10, .inl k0_row)), (q1, .inr (1, [.ref q1_row])), (q1_row, .inl (G.2.1, 10, .inl k1_row))]
abbrev rmX1_isSame : Room := { frames := 0, cells := 0, slots := 0, locals := 0 }
abbrev glX1_isSame (p : Program) (l : Launch) (e : Env) (s : State) (m : MethodId) (args : Array Value) (below : List Frame) (meth : Method) (c : Code) (G : GX) (A : Nat → Prop) (q0 : Nat) (q0_row : Nat) (q1 : Nat) (q1_row : Nat) (k0_row : Nat → Int32) (k1_row : Nat → Int32) (res : Int32) (H : Heap) (locs : List Loc) (pc : Nat) (ls : Array Slot) (st : List Value) : Prop := W p l e rmX1_isSame s m args below meth c H locs 0 0 (MQ below (ctQ G A (wdX1_isSame G q0 q0_row q1 q1_row k0_row k1_row) (some (.int res))) args s 0 0 A) (F0 m pc ls st)
set_option maxRecDepth 20000 in
theorem mX1_isSame_0 : Cond.fieldLink RX1 9 "SchubertDesk$Digits" "row" "[I" ∈ wsX1_isSame := by decide +kernel
set_option maxRecDepth 20000 in
theorem nX1_isSame_X1 : ∀ w ∈ u_ws RX1 TX1 1, w ∈ wsX1_isSame := by decide +kernel
set_option maxHeartbeats 4000000 in
set_option maxRecDepth 100000 in
theorem wX1_isSame_2 {p : Program} {l : Launch} {e : Env} {s : State} {m : MethodId} {args : Array Value} {below : List Frame} {meth : Method} {c : Code} {G : GX} {A : Nat → Prop} (C : Cx p s m args meth c cX1_isSame 3 (some .boolean) wsX1_isSame RX1 G A) (q0 : Nat) (q0_row : Nat) (q1 : Nat) (q1_row : Nat) (k0_row : Nat → Int32) (k1_row : Nat → Int32) (res : Int32) (n : Nat) : ∀ (x2 : Int32) (H : Heap) (locs : List Loc) (ls : Array Slot), fX1_isSame_L2 k0_row k1_row n x2 = some res → va_P G.1 vwCl (wdX1_isSame G q0 q0_row q1 q1_row k0_row k1_row) H → va_D A (wdX1_isSame G q0 q0_row q1 q1_row k0_row k1_row) → va_S A s.heap H locs → lv_has ls 3 [(0, .ref q0), (1, .ref q1), (2, .int x2)] → glX1_isSame p l e s m args below meth c G A q0 q0_row q1 q1_row k0_row k1_row res H locs 2 ls [] := by
  obtain ⟨hx, hb, hml, hown, hts, hr, hlocks, hA, hG⟩ := id C
  induction n with
  | zero => intro x2 H locs ls hf hP hD hS hl; cases hf
  | succ n ih =>
    intro x2 H locs ls hf hP hD hS hl
    simp only [fX1_isSame_L2] at hf
    refine lv_iload_n hx hb dX1_isSame_2 rfl (lv_at hl 2 rfl) ?_
    refine lv_bipush (v := (9 : Int32)) hx hb dX1_isSame_3 (by decide) ?_
    refine lv_icmp_gt (tgt := 31) hx hb dX1_isSame_5 (by decide) (fun hc => ?_) (fun hc => ?_)
    · have hf := if_t hc hf
      refine lv_iconst (v := (1 : Int32)) hx hb dX1_isSame_31 (by decide) ?_
      cases hf
      exact rt_z C (Or.inr rfl) hP hD hS dX1_isSame_32
    · have hf := if_f hc hf
      refine lv_aload_n hx hb dX1_isSame_8 rfl (lv_at hl 0 rfl) ?_
      refine va_get (D := G.1) (ci := 1) (v := .ref q0_row) (C := RX1) (T := TX1) (N := 1) hx hb hts nX1_isSame_X1 hown hG.1 hP 0 rfl rfl 0 (by decide) (hts _ mX1_isSame_0) (fun _ h9 => h9) rfl dX1_isSame_9 ?_
      refine lv_iload_n hx hb dX1_isSame_12 rfl (lv_at hl 2 rfl) ?_
      obtain ⟨hin, hf⟩ := gI_use hf
      refine va_iald hx hb hG.1 hP 1 0 rfl rfl hin dX1_isSame_13 ?_
      refine lv_aload_n hx hb dX1_isSame_14 rfl (lv_at hl 1 rfl) ?_
      refine va_get (D := G.1) (ci := 1) (v := .ref q1_row) (C := RX1) (T := TX1) (N := 1) hx hb hts nX1_isSame_X1 hown hG.1 hP 2 rfl rfl 0 (by decide) (hts _ mX1_isSame_0) (fun _ h9 => h9) rfl dX1_isSame_15 ?_
      refine lv_iload_n hx hb dX1_isSame_18 rfl (lv_at hl 2 rfl) ?_
      obtain ⟨hin, hf⟩ := gI_use hf
      refine va_iald hx hb hG.1 hP 3 0 rfl rfl hin dX1_isSame_19 ?_
      refine lv_icmp_eq (tgt := 25) hx hb dX1_isSame_20 (by decide) (fun hc => ?_) (fun hc => ?_)
      · have hf := if_t hc hf
        obtain ⟨y3, ey3⟩ : ∃ z : Int32, z = x2 + (1 : Int32) := ⟨_, rfl⟩
        have hf := nm_use ey3 hf
        refine lv_iinc (v := y3) (lv' := [(2, .int y3), (0, .ref q0), (1, .ref q1)]) hx hb dX1_isSame_25 hl (k := 2) rfl (by rw [ey3]; rfl) (by decide) rfl (fun ls hl => ?_)
        refine lv_goto (tgt := 2) hx hb dX1_isSame_28 (by decide) ?_
        exact ih y3 _ _ ls hf hP hD hS (lv_sub hl [1, 2, 0] rfl)
      · have hf := if_f hc hf
        refine lv_iconst (v := (0 : Int32)) hx hb dX1_isSame_23 (by decide) ?_
        cases hf
        exact rt_z C (Or.inl rfl) hP hD hS dX1_isSame_24
set_option maxHeartbeats 4000000 in
set_option maxRecDepth 100000 in
theorem tX1_isSame (l : Launch) (G : GX) (q0 : Nat) (q0_row : Nat) (q1 : Nat) (q1_row : Nat) (k0_row : Nat → Int32) (k1_row : Nat → Int32) (res : Int32) (hf : fX1_isSame k0_row k1_row = some res) : Ct l yX1_isSame wsX1_isSame rmX1_isSame G [.ref q0, .ref q1] (wdX1_isSame G q0 q0_row q1 q1_row k0_row k1_row) (wdX1_isSame G q0 q0_row q1 q1_row k0_row k1_row) (some (.int res)) := by
  refine Ct.of (cc := cX1_isSame) (nL := 3) (ret := (some .boolean)) (by decide) rfl (Nat.le_of_ble_eq_true rfl) rfl ?_
  intro p e s m below meth c A ls C hP hD hl
  obtain ⟨hx, hb, hml, hown, hts, hr, hlocks, hA, hG⟩ := id C
  have hS : va_S A s.heap s.heap [] := va_S.rf
  unfold fX1_isSame at hf
  refine lv_iconst (v := (1 : Int32)) hx hb dX1_isSame_0 (by decide) ?_
  refine lv_istore_n (lv' := [(2, .int (1 : Int32)), (0, .ref q0), (1, .ref q1)]) hx hb dX1_isSame_1 rfl hl (by decide) rfl (fun ls hl => ?_)
  exact wX1_isSame_2 C q0 q0_row q1 q1_row k0_row k1_row res fu (1 : Int32) _ _ ls hf hP hD hS (lv_sub hl [1, 2, 0] rfl)
abbrev wdX1_becomeInverse (G : GX) (q0 : Nat) (q0_row : Nat) (q1 : Nat) (q1_row : Nat) (k0_row : Nat → Int32) (k1_row : Nat → Int32) : va_W := [(q0, .inr (1, [.ref q0_row])), (q0_row, .inl (G.2.1, 10, .inl k0_row)), (q1, .inr (1, [.ref q1_row])), (q1_row, .inl (G.2.1, 10, .inl k1_row))]
abbrev rmX1_becomeInverse : Room := { frames := 1, cells := 0, slots := 0, locals := 22 }
abbrev glX1_becomeInverse (p : Program) (l : Launch) (e : Env) (s : State) (m : MethodId) (args : Array Value) (below : List Frame) (meth : Method) (c : Code) (G : GX) (A : Nat → Prop) (q0 : Nat) (q0_row : Nat) (q1 : Nat) (q1_row : Nat) (k1_row : Nat → Int32) (res : (Nat → Int32)) (H : Heap) (locs : List Loc) (pc : Nat) (ls : Array Slot) (st : List Value) : Prop := W p l e rmX1_becomeInverse s m args below meth c H locs 0 0 (MQ below (ctQ G A (wdX1_becomeInverse G q0 q0_row q1 q1_row res k1_row) none) args s 0 0 A) (F0 m pc ls st)
set_option maxHeartbeats 4000000 in
set_option maxRecDepth 100000 in
theorem wX1_becomeInverse_2 {p : Program} {l : Launch} {e : Env} {s : State} {m : MethodId} {args : Array Value} {below : List Frame} {meth : Method} {c : Code} {G : GX} {A : Nat → Prop} (C : Cx p s m args meth c cX1_becomeInverse 3 none wsX1_becomeInverse RX1 G A) (q0 : Nat) (q0_row : Nat) (q1 : Nat) (q1_row : Nat) (k1_row : Nat → Int32) (res : (Nat → Int32)) (n : Nat) : ∀ (k0_row : Nat → Int32) (x2 : Int32) (H : Heap) (locs : List Loc) (ls : Array Slot), fX1_becomeInverse_L2 k1_row n k0_row x2 = some res → va_P G.1 vwCl (wdX1_becomeInverse G q0 q0_row q1 q1_row k0_row k1_row) H → va_D A (wdX1_becomeInverse G q0 q0_row q1 q1_row k0_row k1_row) → va_S A s.heap H locs → lv_has ls 3 [(0, .ref q0), (1, .ref q1), (2, .int x2)] → glX1_becomeInverse p l e s m args below meth c G A q0 q0_row q1 q1_row k1_row res H locs 2 ls [] := by
  obtain ⟨hx, hb, hml, hown, hts, hr, hlocks, hA, hG⟩ := id C
  induction n with
  | zero => intro k0_row x2 H locs ls hf hP hD hS hl; cases hf
  | succ n ih =>
    intro k0_row x2 H locs ls hf hP hD hS hl
    simp only [fX1_becomeInverse_L2] at hf
    refine lv_iload_n hx hb dX1_becomeInverse_2 rfl (lv_at hl 2 rfl) ?_
    refine lv_bipush (v := (9 : Int32)) hx hb dX1_becomeInverse_3 (by decide) ?_
    refine lv_icmp_gt (tgt := 24) hx hb dX1_becomeInverse_5 (by decide) (fun hc => ?_) (fun hc => ?_)
    · have hf := if_t hc hf
      cases hf
      exact rt_v C hP hD hS dX1_becomeInverse_24
    · have hf := if_f hc hf
      refine lv_aload_n hx hb dX1_becomeInverse_8 rfl (lv_at hl 0 rfl) ?_
      refine lv_aload_n hx hb dX1_becomeInverse_9 rfl (lv_at hl 1 rfl) ?_
      refine lv_iload_n hx hb dX1_becomeInverse_10 rfl (lv_at hl 2 rfl) ?_
      obtain ⟨r1, hr1, hf⟩ := bd_use hf
      refine cl_V (wn := (wdX1_becomeInverse G q0 q0_row q1 q1_row k0_row k1_row)) (st1 := [.int r1, .ref q0]) C hP hD hS (tX1_digit l G q1 q1_row k1_row x2 r1 hr1) (cwV 1 hts gX1_becomeInverse_X1_digit rfl rfl rfl (by decide +kernel) ⟨Nat.le_of_ble_eq_true rfl, Nat.le_of_ble_eq_true rfl⟩) [2, 3] [0, 1] [0, 1, 2, 3] rfl rfl rfl rfl (by decide) rfl rfl (ci := 1) (q0 := 2) rfl rfl rfl rfl hl.1 rfl rfl (Nat.le_of_ble_eq_true rfl) dX1_becomeInverse_11 (fun H locs hP hD hS => ?_)
      refine lv_iload_n hx hb dX1_becomeInverse_14 rfl (lv_at hl 2 rfl) ?_
      obtain ⟨r2, hr2, hf⟩ := bd_use hf
      refine cl_V (wn := (wdX1_becomeInverse G q0 q0_row q1 q1_row r2 k1_row)) (st1 := []) C hP hD hS (tX1_put l G q0 q0_row k0_row r1 x2 r2 hr2) (cwV 2 hts gX1_becomeInverse_X1_put rfl rfl rfl (by decide +kernel) ⟨Nat.le_of_ble_eq_true rfl, Nat.le_of_ble_eq_true rfl⟩) [0, 1] [2, 3] [2, 3, 0, 1] rfl rfl rfl rfl (by decide) rfl rfl (ci := 1) (q0 := 0) rfl rfl rfl rfl hl.1 rfl rfl (Nat.le_of_ble_eq_true rfl) dX1_becomeInverse_15 (fun H locs hP hD hS => ?_)
      obtain ⟨y3, ey3⟩ : ∃ z : Int32, z = x2 + (1 : Int32) := ⟨_, rfl⟩
      have hf := nm_use ey3 hf
      refine lv_iinc (v := y3) (lv' := [(2, .int y3), (0, .ref q0), (1, .ref q1)]) hx hb dX1_becomeInverse_18 hl (k := 2) rfl (by rw [ey3]; rfl) (by decide) rfl (fun ls hl => ?_)
      refine lv_goto (tgt := 2) hx hb dX1_becomeInverse_21 (by decide) ?_
      exact ih r2 y3 _ _ ls hf hP hD hS (lv_sub hl [1, 2, 0] rfl)
set_option maxHeartbeats 4000000 in
set_option maxRecDepth 100000 in
theorem tX1_becomeInverse (l : Launch) (G : GX) (q0 : Nat) (q0_row : Nat) (q1 : Nat) (q1_row : Nat) (k0_row : Nat → Int32) (k1_row : Nat → Int32) (res : (Nat → Int32)) (hf : fX1_becomeInverse k0_row k1_row = some res) : Ct l yX1_becomeInverse wsX1_becomeInverse rmX1_becomeInverse G [.ref q0, .ref q1] (wdX1_becomeInverse G q0 q0_row q1 q1_row k0_row k1_row) (wdX1_becomeInverse G q0 q0_row q1 q1_row res k1_row) none := by
  refine Ct.of (cc := cX1_becomeInverse) (nL := 3) (ret := none) (by decide) rfl (Nat.le_of_ble_eq_true rfl) rfl ?_
  intro p e s m below meth c A ls C hP hD hl
  obtain ⟨hx, hb, hml, hown, hts, hr, hlocks, hA, hG⟩ := id C
  have hS : va_S A s.heap s.heap [] := va_S.rf
  unfold fX1_becomeInverse at hf
  refine lv_iconst (v := (1 : Int32)) hx hb dX1_becomeInverse_0 (by decide) ?_
  refine lv_istore_n (lv' := [(2, .int (1 : Int32)), (0, .ref q0), (1, .ref q1)]) hx hb dX1_becomeInverse_1 rfl hl (by decide) rfl (fun ls hl => ?_)
  exact wX1_becomeInverse_2 C q0 q0_row q1 q1_row k1_row res fu k0_row (1 : Int32) _ _ ls hf hP hD hS (lv_sub hl [1, 2, 0] rfl)
abbrev wdX1_becomeProduct (G : GX) (q0 : Nat) (q0_row : Nat) (q1 : Nat) (q1_row : Nat) (q2 : Nat) (q2_row : Nat) (k0_row : Nat → Int32) (k1_row : Nat → Int32) (k2_row : Nat → Int32) : va_W := [(q0, .inr (1, [.ref q0_row])), (q0_row, .inl (G.2.1, 10, .inl k0_row)), (q1, .inr (1, [.ref q1_row])), (q1_row, .inl (G.2.1, 10, .inl k1_row)), (q2, .inr (1, [.ref q2_row])), (q2_row, .inl (G.2.1, 10, .inl k2_row))]
abbrev rmX1_becomeProduct : Room := { frames := 1, cells := 0, slots := 0, locals := 21 }
abbrev glX1_becomeProduct (p : Program) (l : Launch) (e : Env) (s : State) (m : MethodId) (args : Array Value) (below : List Frame) (meth : Method) (c : Code) (G : GX) (A : Nat → Prop) (q0 : Nat) (q0_row : Nat) (q1 : Nat) (q1_row : Nat) (q2 : Nat) (q2_row : Nat) (k1_row : Nat → Int32) (k2_row : Nat → Int32) (res : (Nat → Int32)) (H : Heap) (locs : List Loc) (pc : Nat) (ls : Array Slot) (st : List Value) : Prop := W p l e rmX1_becomeProduct s m args below meth c H locs 0 0 (MQ below (ctQ G A (wdX1_becomeProduct G q0 q0_row q1 q1_row q2 q2_row res k1_row k2_row) none) args s 0 0 A) (F0 m pc ls st)
set_option maxRecDepth 20000 in
theorem mX1_becomeProduct_0 : Cond.fieldLink RX1 9 "SchubertDesk$Digits" "row" "[I" ∈ wsX1_becomeProduct := by decide +kernel
set_option maxRecDepth 20000 in
theorem nX1_becomeProduct_X1 : ∀ w ∈ u_ws RX1 TX1 1, w ∈ wsX1_becomeProduct := by decide +kernel
set_option maxHeartbeats 4000000 in
set_option maxRecDepth 100000 in
theorem wX1_becomeProduct_2 {p : Program} {l : Launch} {e : Env} {s : State} {m : MethodId} {args : Array Value} {below : List Frame} {meth : Method} {c : Code} {G : GX} {A : Nat → Prop} (C : Cx p s m args meth c cX1_becomeProduct 4 none wsX1_becomeProduct RX1 G A) (q0 : Nat) (q0_row : Nat) (q1 : Nat) (q1_row : Nat) (q2 : Nat) (q2_row : Nat) (k1_row : Nat → Int32) (k2_row : Nat → Int32) (res : (Nat → Int32)) (n : Nat) : ∀ (k0_row : Nat → Int32) (x3 : Int32) (H : Heap) (locs : List Loc) (ls : Array Slot), fX1_becomeProduct_L2 k1_row k2_row n k0_row x3 = some res → va_P G.1 vwCl (wdX1_becomeProduct G q0 q0_row q1 q1_row q2 q2_row k0_row k1_row k2_row) H → va_D A (wdX1_becomeProduct G q0 q0_row q1 q1_row q2 q2_row k0_row k1_row k2_row) → va_S A s.heap H locs → lv_has ls 4 [(0, .ref q0), (1, .ref q1), (2, .ref q2), (3, .int x3)] → glX1_becomeProduct p l e s m args below meth c G A q0 q0_row q1 q1_row q2 q2_row k1_row k2_row res H locs 2 ls [] := by
  obtain ⟨hx, hb, hml, hown, hts, hr, hlocks, hA, hG⟩ := id C
  induction n with
  | zero => intro k0_row x3 H locs ls hf hP hD hS hl; cases hf
  | succ n ih =>
    intro k0_row x3 H locs ls hf hP hD hS hl
    simp only [fX1_becomeProduct_L2] at hf
    refine lv_iload_n hx hb dX1_becomeProduct_2 rfl (lv_at hl 3 rfl) ?_
    refine lv_bipush (v := (9 : Int32)) hx hb dX1_becomeProduct_3 (by decide) ?_
    refine lv_icmp_gt (tgt := 29) hx hb dX1_becomeProduct_5 (by decide) (fun hc => ?_) (fun hc => ?_)
    · have hf := if_t hc hf
      cases hf
      exact rt_v C hP hD hS dX1_becomeProduct_29
    · have hf := if_f hc hf
      refine lv_aload_n hx hb dX1_becomeProduct_8 rfl (lv_at hl 0 rfl) ?_
      refine va_get (D := G.1) (ci := 1) (v := .ref q0_row) (C := RX1) (T := TX1) (N := 1) hx hb hts nX1_becomeProduct_X1 hown hG.1 hP 0 rfl rfl 0 (by decide) (hts _ mX1_becomeProduct_0) (fun _ h9 => h9) rfl dX1_becomeProduct_9 ?_
      refine lv_iload_n hx hb dX1_becomeProduct_12 rfl (lv_at hl 3 rfl) ?_
      refine lv_aload_n hx hb dX1_becomeProduct_13 rfl (lv_at hl 1 rfl) ?_
      refine lv_aload_n hx hb dX1_becomeProduct_14 rfl (lv_at hl 2 rfl) ?_
      refine lv_iload_n hx hb dX1_becomeProduct_15 rfl (lv_at hl 3 rfl) ?_
      obtain ⟨r1, hr1, hf⟩ := bd_use hf
      refine cl_V (wn := (wdX1_becomeProduct G q0 q0_row q1 q1_row q2 q2_row k0_row k1_row k2_row)) (st1 := [.int r1, .ref q1, .int x3, .ref q0_row]) C hP hD hS (tX1_digit l G q2 q2_row k2_row x3 r1 hr1) (cwV 1 hts gX1_becomeProduct_X1_digit rfl rfl rfl (by decide +kernel) ⟨Nat.le_of_ble_eq_true rfl, Nat.le_of_ble_eq_true rfl⟩) [4, 5] [0, 1, 2, 3] [0, 1, 2, 3, 4, 5] rfl rfl rfl rfl (by decide) rfl rfl (ci := 1) (q0 := 4) rfl rfl rfl rfl hl.1 rfl rfl (Nat.le_of_ble_eq_true rfl) dX1_becomeProduct_16 (fun H locs hP hD hS => ?_)
      obtain ⟨r2, hr2, hf⟩ := bd_use hf
      refine cl_V (wn := (wdX1_becomeProduct G q0 q0_row q1 q1_row q2 q2_row k0_row k1_row k2_row)) (st1 := [.int r2, .int x3, .ref q0_row]) C hP hD hS (tX1_digit l G q1 q1_row k1_row r1 r2 hr2) (cwV 1 hts gX1_becomeProduct_X1_digit rfl rfl rfl (by decide +kernel) ⟨Nat.le_of_ble_eq_true rfl, Nat.le_of_ble_eq_true rfl⟩) [2, 3] [0, 1, 4, 5] [0, 1, 4, 5, 2, 3] rfl rfl rfl rfl (by decide) rfl rfl (ci := 1) (q0 := 2) rfl rfl rfl rfl hl.1 rfl rfl (Nat.le_of_ble_eq_true rfl) dX1_becomeProduct_19 (fun H locs hP hD hS => ?_)
      obtain ⟨hin, hf⟩ := pI_use hf
      refine va_iast hx hb hG.1 hP hD hS 1 0 rfl rfl hin dX1_becomeProduct_22 (fun H locs hP hD hS => ?_)
      have hP : va_P G.1 vwCl (wdX1_becomeProduct G q0 q0_row q1 q1_row q2 q2_row (upd k0_row (x3).toNatClampNeg r2) k1_row k2_row) H := hP
      have hD : va_D A (wdX1_becomeProduct G q0 q0_row q1 q1_row q2 q2_row (upd k0_row (x3).toNatClampNeg r2) k1_row k2_row) := hD
      obtain ⟨y4, ey4⟩ : ∃ z : Int32, z = x3 + (1 : Int32) := ⟨_, rfl⟩
      have hf := nm_use ey4 hf
      refine lv_iinc (v := y4) (lv' := [(3, .int y4), (0, .ref q0), (1, .ref q1), (2, .ref q2)]) hx hb dX1_becomeProduct_23 hl (k := 3) rfl (by rw [ey4]; rfl) (by decide) rfl (fun ls hl => ?_)
      refine lv_goto (tgt := 2) hx hb dX1_becomeProduct_26 (by decide) ?_
      exact ih (upd k0_row (x3).toNatClampNeg r2) y4 _ _ ls hf hP hD hS (lv_sub hl [1, 2, 3, 0] rfl)
set_option maxHeartbeats 4000000 in
set_option maxRecDepth 100000 in
theorem tX1_becomeProduct (l : Launch) (G : GX) (q0 : Nat) (q0_row : Nat) (q1 : Nat) (q1_row : Nat) (q2 : Nat) (q2_row : Nat) (k0_row : Nat → Int32) (k1_row : Nat → Int32) (k2_row : Nat → Int32) (res : (Nat → Int32)) (hf : fX1_becomeProduct k0_row k1_row k2_row = some res) : Ct l yX1_becomeProduct wsX1_becomeProduct rmX1_becomeProduct G [.ref q0, .ref q1, .ref q2] (wdX1_becomeProduct G q0 q0_row q1 q1_row q2 q2_row k0_row k1_row k2_row) (wdX1_becomeProduct G q0 q0_row q1 q1_row q2 q2_row res k1_row k2_row) none := by
  refine Ct.of (cc := cX1_becomeProduct) (nL := 4) (ret := none) (by decide) rfl (Nat.le_of_ble_eq_true rfl) rfl ?_
  intro p e s m below meth c A ls C hP hD hl
  obtain ⟨hx, hb, hml, hown, hts, hr, hlocks, hA, hG⟩ := id C
  have hS : va_S A s.heap s.heap [] := va_S.rf
  unfold fX1_becomeProduct at hf
  refine lv_iconst (v := (1 : Int32)) hx hb dX1_becomeProduct_0 (by decide) ?_
  refine lv_istore_n (lv' := [(3, .int (1 : Int32)), (0, .ref q0), (1, .ref q1), (2, .ref q2)]) hx hb dX1_becomeProduct_1 rfl hl (by decide) rfl (fun ls hl => ?_)
  exact wX1_becomeProduct_2 C q0 q0_row q1 q1_row q2 q2_row k1_row k2_row res fu k0_row (1 : Int32) _ _ ls hf hP hD hS (lv_sub hl [1, 2, 3, 0] rfl)
