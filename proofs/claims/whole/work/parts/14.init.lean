set_option maxRecDepth 20000 in
theorem mX1_init_0 : Cond.methodLink RX1 3 objectInit ∈ wsX1_init := by decide +kernel
set_option maxRecDepth 20000 in
theorem mX1_init_1 : Cond.instanceMethod objectInit ∈ wsX1_init := by decide +kernel
set_option maxRecDepth 20000 in
theorem mX1_init_2 : Cond.arrayClass .int ∈ wsX1_init := by decide +kernel
set_option maxRecDepth 20000 in
theorem mX1_init_3 : Cond.fieldLink RX1 9 "SchubertDesk$Digits" "row" "[I" ∈ wsX1_init := by decide +kernel
set_option maxRecDepth 20000 in
theorem nX1_init_X1 : ∀ w ∈ u_ws RX1 TX1 1, w ∈ wsX1_init := by decide +kernel
abbrev rmX1_init : Room := { frames := 1, cells := 1, slots := 10, locals := 60 }
set_option maxHeartbeats 4000000 in
set_option maxRecDepth 100000 in
theorem tX1_init (l : Launch) (G : GX) (q0 : Nat) : Cn l yX1_init wsX1_init rmX1_init G [.ref q0] [(q0, .inr (1, [.null]))] (fun w1 : va_W => ∃ q1 : Nat, w1 = [(q0, .inr (1, [.ref q1])), (q1, .inl (G.2.1, 10, .inl (fun _ => 0)))]) 1 10 := by
  refine Cn.of (cc := cX1_init) (nL := 1) (ret := none) (by decide) rfl (Nat.le_of_ble_eq_true rfl) rfl ?_
  intro p e s m below meth c A ls C hin hP hD hl
  obtain ⟨hx, hb, hml, hown, hts, hr, hlocks, hA, hG⟩ := id C
  have hS : va_S A s.heap s.heap [] := va_S.rf
  refine lv_aload_n hx hb dX1_init_0 rfl (lv_at hl 0 rfl) ?_
  refine W.objInit hx hb hown (hts _ mX1_init_0) (hts _ mX1_init_1) (hts _ (List.mem_of_getElem? (i := 3) rfl)) rfl (by rw [hml]; exact hl.1) rfl dX1_init_1 (Nat.le_of_ble_eq_true rfl) (Nat.le_of_ble_eq_true rfl) ?_
  refine W.eq (g2 := F0 m 4 ls []) rfl ?_
  refine lv_aload_n hx hb dX1_init_4 rfl (lv_at hl 0 rfl) ?_
  refine lv_bipush (v := (10 : Int32)) hx hb dX1_init_5 (by decide) ?_
  refine nw_I (N := 10) C (hts _ mX1_init_2) hP hD hS (by decide) (by decide) (Nat.le_of_ble_eq_true rfl) (Nat.le_of_ble_eq_true rfl) (Nat.le_of_ble_eq_true rfl) dX1_init_7 (fun q1 H hP hD hS => ?_)
  have hP : va_P G.1 vwCl [(q0, .inr (1, [.null])), (q1, .inl (G.2.1, 10, .inl (fun _ => 0)))] H := hP
  have hD : va_D A [(q0, .inr (1, [.null])), (q1, .inl (G.2.1, 10, .inl (fun _ => 0)))] := hD
  refine W.widen (k := 1) (n := 10) (Nat.le_of_ble_eq_true rfl) (Nat.le_of_ble_eq_true rfl) ?_
  refine va_putF (D := G.1) (ci := 1) (v := .ref q1) (ty := .array .int) (C := RX1) (T := TX1) (N := 1) hx hb hts nX1_init_X1 tyX1 tyX1_ok nmX1 hown hG.1 hP hD hS 0 rfl rfl 0 (by decide) (hts _ mX1_init_3) (fun _ h9 => h9) rfl hin rfl (by decide +kernel) rfl rfl (Nat.le_of_ble_eq_true rfl) dX1_init_9 (fun H locs hP hD hS => ?_)
  have hP : va_P G.1 vwCl [(q0, .inr (1, [.ref q1])), (q1, .inl (G.2.1, 10, .inl (fun _ => 0)))] H := hP
  have hD : va_D A [(q0, .inr (1, [.ref q1])), (q1, .inl (G.2.1, 10, .inl (fun _ => 0)))] := hD
  have hP := hP.sub (ws' := [(q0, .inr (1, [.ref q1])), (q1, .inl (G.2.1, 10, .inl (fun _ => 0)))]) [0, 1] rfl
  have hD := hD.sub (ws' := [(q0, .inr (1, [.ref q1])), (q1, .inl (G.2.1, 10, .inl (fun _ => 0)))]) [0, 1] rfl rfl
  exact rt_c C (Nat.le_of_ble_eq_true rfl) (Nat.le_of_ble_eq_true rfl) ⟨q1, rfl⟩ hP hD hS dX1_init_12
set_option maxRecDepth 20000 in
theorem mX0_init_32_0 : Cond.methodLink RX0 3 objectInit ∈ wsX0_init := by decide +kernel
set_option maxRecDepth 20000 in
theorem mX0_init_32_1 : Cond.instanceMethod objectInit ∈ wsX0_init := by decide +kernel
set_option maxRecDepth 20000 in
theorem mX0_init_32_2 : Cond.fieldLink RX0 9 "SchubertDesk$Ascending" "size" "I" ∈ wsX0_init := by decide +kernel
set_option maxRecDepth 20000 in
theorem mX0_init_32_3 : Cond.methodLink RX0 15 Lib.Math.max.name ∈ wsX0_init := by decide +kernel
set_option maxRecDepth 20000 in
theorem mX0_init_32_4 : Cond.static Lib.Math.max.name ∈ wsX0_init := by decide +kernel
set_option maxRecDepth 20000 in
theorem mX0_init_32_5 : Cond.initialized "java/lang/Math" ∈ wsX0_init := by decide +kernel
set_option maxRecDepth 20000 in
theorem mX0_init_32_6 : Cond.code Lib.Math.max.name Lib.Math.max.code 2 (some .int) ∈ wsX0_init := by decide +kernel
set_option maxRecDepth 20000 in
theorem mX0_init_32_7 : Cond.arrayClass .int ∈ wsX0_init := by decide +kernel
set_option maxRecDepth 20000 in
theorem mX0_init_32_8 : Cond.fieldLink RX0 21 "SchubertDesk$Ascending" "items" "[I" ∈ wsX0_init := by decide +kernel
set_option maxRecDepth 20000 in
theorem nX0_init_32_X0 : ∀ w ∈ u_ws RX0 TX0 2, w ∈ wsX0_init := by decide +kernel
abbrev rmX0_init_32 : Room := { frames := 1, cells := 1, slots := 32, locals := 60 }
set_option maxHeartbeats 4000000 in
set_option maxRecDepth 100000 in
theorem tX0_init_32 (l : Launch) (G : GX) (q0 : Nat) : Cn l yX0_init wsX0_init rmX0_init_32 G [.ref q0, .int (32 : Int32)] [(q0, .inr (0, [.null, .int 0]))] (fun w1 : va_W => ∃ q1 : Nat, w1 = [(q0, .inr (0, [.ref q1, .int (0 : Int32)])), (q1, .inl (G.2.1, 32, .inl (fun _ => 0)))]) 1 32 := by
  refine Cn.of (cc := cX0_init) (nL := 2) (ret := none) (by decide) rfl (Nat.le_of_ble_eq_true rfl) rfl ?_
  intro p e s m below meth c A ls C hin hP hD hl
  obtain ⟨hx, hb, hml, hown, hts, hr, hlocks, hA, hG⟩ := id C
  have hS : va_S A s.heap s.heap [] := va_S.rf
  refine lv_aload_n hx hb dX0_init_0 rfl (lv_at hl 0 rfl) ?_
  refine W.objInit hx hb hown (hts _ mX0_init_32_0) (hts _ mX0_init_32_1) (hts _ (List.mem_of_getElem? (i := 3) rfl)) rfl (by rw [hml]; exact hl.1) rfl dX0_init_1 (Nat.le_of_ble_eq_true rfl) (Nat.le_of_ble_eq_true rfl) ?_
  refine W.eq (g2 := F0 m 4 ls []) rfl ?_
  refine lv_aload_n hx hb dX0_init_4 rfl (lv_at hl 0 rfl) ?_
  refine lv_iconst (v := (0 : Int32)) hx hb dX0_init_5 (by decide) ?_
  refine va_put (D := G.1) (ci := 0) (v := .int (0 : Int32)) (ty := .int) (C := RX0) (T := TX0) (N := 2) hx hb hts nX0_init_32_X0 tyX0 tyX0_ok nmX0 hown hG.1 hP hD hS 0 rfl rfl 1 (by decide) (hts _ mX0_init_32_2) (fun _ h9 => h9) rfl (by decide +kernel) rfl rfl (Nat.le_of_ble_eq_true rfl) dX0_init_6 (fun H locs hP hD hS => ?_)
  have hP : va_P G.1 vwCl [(q0, .inr (0, [.null, .int (0 : Int32)]))] H := hP
  have hD : va_D A [(q0, .inr (0, [.null, .int (0 : Int32)]))] := hD
  refine lv_aload_n hx hb dX0_init_9 rfl (lv_at hl 0 rfl) ?_
  refine lv_iload_n hx hb dX0_init_10 rfl (lv_at hl 1 rfl) ?_
  refine lv_iconst (v := (1 : Int32)) hx hb dX0_init_11 (by decide) ?_
  refine va_mmax hx hb (hml.trans hl.1.symm) hown (hts _ mX0_init_32_3) (hts _ mX0_init_32_4) (hts _ mX0_init_32_5) (hts _ mX0_init_32_6) (Nat.le_of_ble_eq_true rfl) (Nat.le_of_ble_eq_true rfl) (Nat.zero_le _) (Nat.zero_le _) dX0_init_12 ?_
  refine nw_I (N := 32) C (hts _ mX0_init_32_7) hP hD hS (by decide) (by decide) (Nat.le_of_ble_eq_true rfl) (Nat.le_of_ble_eq_true rfl) (Nat.le_of_ble_eq_true rfl) dX0_init_15 (fun q1 H hP hD hS => ?_)
  have hP : va_P G.1 vwCl [(q0, .inr (0, [.null, .int (0 : Int32)])), (q1, .inl (G.2.1, 32, .inl (fun _ => 0)))] H := hP
  have hD : va_D A [(q0, .inr (0, [.null, .int (0 : Int32)])), (q1, .inl (G.2.1, 32, .inl (fun _ => 0)))] := hD
  refine W.widen (k := 1) (n := 32) (Nat.le_of_ble_eq_true rfl) (Nat.le_of_ble_eq_true rfl) ?_
  refine va_putF (D := G.1) (ci := 0) (v := .ref q1) (ty := .array .int) (C := RX0) (T := TX0) (N := 2) hx hb hts nX0_init_32_X0 tyX0 tyX0_ok nmX0 hown hG.1 hP hD hS 0 rfl rfl 0 (by decide) (hts _ mX0_init_32_8) (fun _ h9 => h9) rfl hin rfl (by decide +kernel) rfl rfl (Nat.le_of_ble_eq_true rfl) dX0_init_17 (fun H locs hP hD hS => ?_)
  have hP : va_P G.1 vwCl [(q0, .inr (0, [.ref q1, .int (0 : Int32)])), (q1, .inl (G.2.1, 32, .inl (fun _ => 0)))] H := hP
  have hD : va_D A [(q0, .inr (0, [.ref q1, .int (0 : Int32)])), (q1, .inl (G.2.1, 32, .inl (fun _ => 0)))] := hD
  have hP := hP.sub (ws' := [(q0, .inr (0, [.ref q1, .int (0 : Int32)])), (q1, .inl (G.2.1, 32, .inl (fun _ => 0)))]) [0, 1] rfl
  have hD := hD.sub (ws' := [(q0, .inr (0, [.ref q1, .int (0 : Int32)])), (q1, .inl (G.2.1, 32, .inl (fun _ => 0)))]) [0, 1] rfl rfl
  exact rt_c C (Nat.le_of_ble_eq_true rfl) (Nat.le_of_ble_eq_true rfl) ⟨q1, rfl⟩ hP hD hS dX0_init_20
set_option maxRecDepth 20000 in
theorem mX2_init_0 : Cond.methodLink RX2 3 objectInit ∈ wsX2_init := by decide +kernel
set_option maxRecDepth 20000 in
theorem mX2_init_1 : Cond.instanceMethod objectInit ∈ wsX2_init := by decide +kernel
set_option maxRecDepth 20000 in
theorem mX2_init_2 : Cond.arrayClass .long ∈ wsX2_init := by decide +kernel
set_option maxRecDepth 20000 in
theorem mX2_init_3 : Cond.fieldLink RX2 9 "SchubertDesk$Grid" "cell" "[J" ∈ wsX2_init := by decide +kernel
set_option maxRecDepth 20000 in
theorem mX2_init_4 : Cond.arrayClass .int ∈ wsX2_init := by decide +kernel
set_option maxRecDepth 20000 in
theorem mX2_init_5 : Cond.fieldLink RX2 15 "SchubertDesk$Grid" "top" "[I" ∈ wsX2_init := by decide +kernel
set_option maxRecDepth 20000 in
theorem nX2_init_X2 : ∀ w ∈ u_ws RX2 TX2 2, w ∈ wsX2_init := by decide +kernel
abbrev rmX2_init : Room := { frames := 1, cells := 2, slots := 3029, locals := 60 }
set_option maxHeartbeats 4000000 in
set_option maxRecDepth 100000 in
theorem tX2_init (l : Launch) (G : GX) (q0 : Nat) : Cn l yX2_init wsX2_init rmX2_init G [.ref q0] [(q0, .inr (2, [.null, .null]))] (fun w1 : va_W => ∃ q1 q2 : Nat, w1 = [(q0, .inr (2, [.ref q1, .ref q2])), (q1, .inl (G.2.2.1, 3024, .inr (.inl (fun _ => 0)))), (q2, .inl (G.2.1, 5, .inl (fun _ => 0)))]) 2 3029 := by
  refine Cn.of (cc := cX2_init) (nL := 1) (ret := none) (by decide) rfl (Nat.le_of_ble_eq_true rfl) rfl ?_
  intro p e s m below meth c A ls C hin hP hD hl
  obtain ⟨hx, hb, hml, hown, hts, hr, hlocks, hA, hG⟩ := id C
  have hS : va_S A s.heap s.heap [] := va_S.rf
  refine lv_aload_n hx hb dX2_init_0 rfl (lv_at hl 0 rfl) ?_
  refine W.objInit hx hb hown (hts _ mX2_init_0) (hts _ mX2_init_1) (hts _ (List.mem_of_getElem? (i := 3) rfl)) rfl (by rw [hml]; exact hl.1) rfl dX2_init_1 (Nat.le_of_ble_eq_true rfl) (Nat.le_of_ble_eq_true rfl) ?_
  refine W.eq (g2 := F0 m 4 ls []) rfl ?_
  refine lv_aload_n hx hb dX2_init_4 rfl (lv_at hl 0 rfl) ?_
  refine lv_sipush (v := (3024 : Int32)) hx hb dX2_init_5 (by decide) ?_
  refine nw_J (N := 3024) C (hts _ mX2_init_2) hP hD hS (by decide) (by decide) (Nat.le_of_ble_eq_true rfl) (Nat.le_of_ble_eq_true rfl) (Nat.le_of_ble_eq_true rfl) dX2_init_8 (fun q1 H hP hD hS => ?_)
  have hP : va_P G.1 vwCl [(q0, .inr (2, [.null, .null])), (q1, .inl (G.2.2.1, 3024, .inr (.inl (fun _ => 0))))] H := hP
  have hD : va_D A [(q0, .inr (2, [.null, .null])), (q1, .inl (G.2.2.1, 3024, .inr (.inl (fun _ => 0))))] := hD
  refine W.widen (k := 1) (n := 3024) (Nat.le_of_ble_eq_true rfl) (Nat.le_of_ble_eq_true rfl) ?_
  refine va_putF (D := G.1) (ci := 2) (v := .ref q1) (ty := .array .long) (C := RX2) (T := TX2) (N := 2) hx hb hts nX2_init_X2 tyX2 tyX2_ok nmX2 hown hG.1 hP hD hS 0 rfl rfl 0 (by decide) (hts _ mX2_init_3) (fun _ h9 => h9) rfl hin rfl (by decide +kernel) rfl rfl (Nat.le_of_ble_eq_true rfl) dX2_init_10 (fun H locs hP hD hS => ?_)
  have hP : va_P G.1 vwCl [(q0, .inr (2, [.ref q1, .null])), (q1, .inl (G.2.2.1, 3024, .inr (.inl (fun _ => 0))))] H := hP
  have hD : va_D A [(q0, .inr (2, [.ref q1, .null])), (q1, .inl (G.2.2.1, 3024, .inr (.inl (fun _ => 0))))] := hD
  refine lv_aload_n hx hb dX2_init_13 rfl (lv_at hl 0 rfl) ?_
  refine lv_iconst (v := (5 : Int32)) hx hb dX2_init_14 (by decide) ?_
  refine nw_I (N := 5) C (hts _ mX2_init_4) hP hD hS (by decide) (by decide) (Nat.le_of_ble_eq_true rfl) (Nat.le_of_ble_eq_true rfl) (Nat.le_of_ble_eq_true rfl) dX2_init_15 (fun q2 H hP hD hS => ?_)
  have hP : va_P G.1 vwCl [(q0, .inr (2, [.ref q1, .null])), (q1, .inl (G.2.2.1, 3024, .inr (.inl (fun _ => 0)))), (q2, .inl (G.2.1, 5, .inl (fun _ => 0)))] H := hP
  have hD : va_D A [(q0, .inr (2, [.ref q1, .null])), (q1, .inl (G.2.2.1, 3024, .inr (.inl (fun _ => 0)))), (q2, .inl (G.2.1, 5, .inl (fun _ => 0)))] := hD
  refine W.widen (k := 2) (n := 3029) (Nat.le_of_ble_eq_true rfl) (Nat.le_of_ble_eq_true rfl) ?_
  refine va_putF (D := G.1) (ci := 2) (v := .ref q2) (ty := .array .int) (C := RX2) (T := TX2) (N := 2) hx hb hts nX2_init_X2 tyX2 tyX2_ok nmX2 hown hG.1 hP hD hS 0 rfl rfl 1 (by decide) (hts _ mX2_init_5) (fun _ h9 => h9) rfl hin rfl (by decide +kernel) rfl rfl (Nat.le_of_ble_eq_true rfl) dX2_init_17 (fun H locs hP hD hS => ?_)
  have hP : va_P G.1 vwCl [(q0, .inr (2, [.ref q1, .ref q2])), (q1, .inl (G.2.2.1, 3024, .inr (.inl (fun _ => 0)))), (q2, .inl (G.2.1, 5, .inl (fun _ => 0)))] H := hP
  have hD : va_D A [(q0, .inr (2, [.ref q1, .ref q2])), (q1, .inl (G.2.2.1, 3024, .inr (.inl (fun _ => 0)))), (q2, .inl (G.2.1, 5, .inl (fun _ => 0)))] := hD
  have hP := hP.sub (ws' := [(q0, .inr (2, [.ref q1, .ref q2])), (q1, .inl (G.2.2.1, 3024, .inr (.inl (fun _ => 0)))), (q2, .inl (G.2.1, 5, .inl (fun _ => 0)))]) [0, 1, 2] rfl
  have hD := hD.sub (ws' := [(q0, .inr (2, [.ref q1, .ref q2])), (q1, .inl (G.2.2.1, 3024, .inr (.inl (fun _ => 0)))), (q2, .inl (G.2.1, 5, .inl (fun _ => 0)))]) [0, 1, 2] rfl rfl
  exact rt_c C (Nat.le_of_ble_eq_true rfl) (Nat.le_of_ble_eq_true rfl) ⟨q1, q2, rfl⟩ hP hD hS dX2_init_20
set_option maxRecDepth 20000 in
theorem mX4_init_0 : Cond.methodLink RX4 3 objectInit ∈ wsX4_init := by decide +kernel
set_option maxRecDepth 20000 in
theorem mX4_init_1 : Cond.instanceMethod objectInit ∈ wsX4_init := by decide +kernel
set_option maxRecDepth 20000 in
theorem mX4_init_2 : Cond.classLink RX4 9 RX2 ∈ wsX4_init := by decide +kernel
set_option maxRecDepth 20000 in
theorem mX4_init_3 : Cond.instantiable RX2 2 ∈ wsX4_init := by decide +kernel
set_option maxRecDepth 20000 in
theorem mX4_init_4 : Cond.initialized RX2 ∈ wsX4_init := by decide +kernel
set_option maxRecDepth 20000 in
theorem mX4_init_5 : Cond.instanceMethod yX2_init ∈ wsX4_init := by decide +kernel
set_option maxRecDepth 20000 in
theorem mX4_init_6 : Cond.fieldLink RX4 12 "SchubertDesk$Single" "grid" "LSchubertDesk$Grid;" ∈ wsX4_init := by decide +kernel
set_option maxRecDepth 20000 in
theorem mX4_init_7 : Cond.arrayClass .int ∈ wsX4_init := by decide +kernel
set_option maxRecDepth 20000 in
theorem mX4_init_8 : Cond.fieldLink RX4 18 "SchubertDesk$Single" "code" "[I" ∈ wsX4_init := by decide +kernel
set_option maxRecDepth 20000 in
theorem mX4_init_9 : Cond.fieldLink RX4 22 "SchubertDesk$Single" "way" "[I" ∈ wsX4_init := by decide +kernel
set_option maxRecDepth 20000 in
theorem mX4_init_10 : Cond.fieldLink RX4 25 "SchubertDesk$Single" "made" "I" ∈ wsX4_init := by decide +kernel
set_option maxRecDepth 20000 in
theorem nX4_init_X2 : ∀ w ∈ u_ws RX2 TX2 2, w ∈ wsX4_init := by decide +kernel
set_option maxRecDepth 20000 in
theorem nX4_init_X4 : ∀ w ∈ u_ws RX4 TX4 4, w ∈ wsX4_init := by decide +kernel
abbrev rmX4_init : Room := { frames := 2, cells := 5, slots := 3042, locals := 80 }
set_option maxHeartbeats 4000000 in
set_option maxRecDepth 100000 in
theorem tX4_init (l : Launch) (G : GX) (q0 : Nat) : Cn l yX4_init wsX4_init rmX4_init G [.ref q0] [(q0, .inr (4, [.null, .null, .null, .int 0]))] (fun w1 : va_W => ∃ q1 q2 q3 q4 q5 : Nat, w1 = [(q0, .inr (4, [.ref q1, .ref q4, .ref q5, .int (-1 : Int32)])), (q1, .inr (2, [.ref q2, .ref q3])), (q2, .inl (G.2.2.1, 3024, .inr (.inl (fun _ => 0)))), (q3, .inl (G.2.1, 5, .inl (fun _ => 0))), (q4, .inl (G.2.1, 5, .inl (fun _ => 0))), (q5, .inl (G.2.1, 6, .inl (fun _ => 0)))]) 5 3042 := by
  refine Cn.of (cc := cX4_init) (nL := 1) (ret := none) (by decide) rfl (Nat.le_of_ble_eq_true rfl) rfl ?_
  intro p e s m below meth c A ls C hin hP hD hl
  obtain ⟨hx, hb, hml, hown, hts, hr, hlocks, hA, hG⟩ := id C
  have hS : va_S A s.heap s.heap [] := va_S.rf
  refine lv_aload_n hx hb dX4_init_0 rfl (lv_at hl 0 rfl) ?_
  refine W.objInit hx hb hown (hts _ mX4_init_0) (hts _ mX4_init_1) (hts _ (List.mem_of_getElem? (i := 3) rfl)) rfl (by rw [hml]; exact hl.1) rfl dX4_init_1 (Nat.le_of_ble_eq_true rfl) (Nat.le_of_ble_eq_true rfl) ?_
  refine W.eq (g2 := F0 m 4 ls []) rfl ?_
  refine lv_aload_n hx hb dX4_init_4 rfl (lv_at hl 0 rfl) ?_
  refine va_new (ci := 2) (fs := [.null, .null]) (C := RX2) (T := TX2) (N := 2) hx hb hts nX4_init_X2 tyX2 tyX2_ok hown (hts _ mX4_init_2) (hts _ mX4_init_3) (hts _ mX4_init_4) hG.1 hP hD hS hA rfl (fun j hj => by rcases (show j = 0 ∨ j = 1 by omega) with rfl | rfl <;> rfl) (Nat.le_of_ble_eq_true rfl) (Nat.le_of_ble_eq_true rfl) dX4_init_5 (fun q1 H hP hD hS => ?_)
  have hP : va_P G.1 vwCl [(q0, .inr (4, [.null, .null, .null, .int 0])), (q1, .inr (2, [.null, .null]))] H := hP
  have hD : va_D A [(q0, .inr (4, [.null, .null, .null, .int 0])), (q1, .inr (2, [.null, .null]))] := hD
  refine W.widen (k := 1) (n := 2) (Nat.le_of_ble_eq_true rfl) (Nat.le_of_ble_eq_true rfl) ?_
  refine lv_dup hx hb dX4_init_8 rfl ?_
  refine cl_IN (host := RX5) (rest := [.ref q1, .ref q0]) (As := []) C hP hD hS (tX2_init l G q1) ⟨va_cnB 0 hts gX4_init_X2_init_n11 rfl rfl rfl (hG.2.1 (.methodLinkNest RX4 11 yX2_init RX5) (by decide +kernel)) (hts _ mX4_init_4) (by decide +kernel) ⟨Nat.le_of_ble_eq_true rfl, Nat.le_of_ble_eq_true rfl⟩, rfl, (hts _ mX4_init_5)⟩ [1] [0] rfl rfl rfl rfl (by decide) rfl hl.1 rfl (Nat.le_of_ble_eq_true rfl) dX4_init_9 ⟨Nat.le_of_ble_eq_true rfl, Nat.le_of_ble_eq_true rfl⟩ (fun w1 H locs hQ hP hD hS => ?_)
  obtain ⟨q2, q3, rfl⟩ := hQ
  have hP : va_P G.1 vwCl [(q0, .inr (4, [.null, .null, .null, .int 0])), (q1, .inr (2, [.ref q2, .ref q3])), (q2, .inl (G.2.2.1, 3024, .inr (.inl (fun _ => 0)))), (q3, .inl (G.2.1, 5, .inl (fun _ => 0)))] H := hP
  have hD : va_D A [(q0, .inr (4, [.null, .null, .null, .int 0])), (q1, .inr (2, [.ref q2, .ref q3])), (q2, .inl (G.2.2.1, 3024, .inr (.inl (fun _ => 0)))), (q3, .inl (G.2.1, 5, .inl (fun _ => 0)))] := hD
  refine W.widen (k := 3) (n := 3031) (Nat.le_of_ble_eq_true rfl) (Nat.le_of_ble_eq_true rfl) ?_
  refine va_putF (D := G.1) (ci := 4) (v := .ref q1) (ty := .object "SchubertDesk$Grid") (C := RX4) (T := TX4) (N := 4) hx hb hts nX4_init_X4 tyX4 tyX4_ok nmX4 hown hG.1 hP hD hS 0 rfl rfl 0 (by decide) (hts _ mX4_init_6) (fun _ h9 => h9) rfl hin rfl (by decide +kernel) rfl rfl (Nat.le_of_ble_eq_true rfl) dX4_init_12 (fun H locs hP hD hS => ?_)
  have hP : va_P G.1 vwCl [(q0, .inr (4, [.ref q1, .null, .null, .int 0])), (q1, .inr (2, [.ref q2, .ref q3])), (q2, .inl (G.2.2.1, 3024, .inr (.inl (fun _ => 0)))), (q3, .inl (G.2.1, 5, .inl (fun _ => 0)))] H := hP
  have hD : va_D A [(q0, .inr (4, [.ref q1, .null, .null, .int 0])), (q1, .inr (2, [.ref q2, .ref q3])), (q2, .inl (G.2.2.1, 3024, .inr (.inl (fun _ => 0)))), (q3, .inl (G.2.1, 5, .inl (fun _ => 0)))] := hD
  refine lv_aload_n hx hb dX4_init_15 rfl (lv_at hl 0 rfl) ?_
  refine lv_iconst (v := (5 : Int32)) hx hb dX4_init_16 (by decide) ?_
  refine nw_I (N := 5) C (hts _ mX4_init_7) hP hD hS (by decide) (by decide) (Nat.le_of_ble_eq_true rfl) (Nat.le_of_ble_eq_true rfl) (Nat.le_of_ble_eq_true rfl) dX4_init_17 (fun q4 H hP hD hS => ?_)
  have hP : va_P G.1 vwCl [(q0, .inr (4, [.ref q1, .null, .null, .int 0])), (q1, .inr (2, [.ref q2, .ref q3])), (q2, .inl (G.2.2.1, 3024, .inr (.inl (fun _ => 0)))), (q3, .inl (G.2.1, 5, .inl (fun _ => 0))), (q4, .inl (G.2.1, 5, .inl (fun _ => 0)))] H := hP
  have hD : va_D A [(q0, .inr (4, [.ref q1, .null, .null, .int 0])), (q1, .inr (2, [.ref q2, .ref q3])), (q2, .inl (G.2.2.1, 3024, .inr (.inl (fun _ => 0)))), (q3, .inl (G.2.1, 5, .inl (fun _ => 0))), (q4, .inl (G.2.1, 5, .inl (fun _ => 0)))] := hD
  refine W.widen (k := 4) (n := 3036) (Nat.le_of_ble_eq_true rfl) (Nat.le_of_ble_eq_true rfl) ?_
  refine va_putF (D := G.1) (ci := 4) (v := .ref q4) (ty := .array .int) (C := RX4) (T := TX4) (N := 4) hx hb hts nX4_init_X4 tyX4 tyX4_ok nmX4 hown hG.1 hP hD hS 0 rfl rfl 1 (by decide) (hts _ mX4_init_8) (fun _ h9 => h9) rfl hin rfl (by decide +kernel) rfl rfl (Nat.le_of_ble_eq_true rfl) dX4_init_19 (fun H locs hP hD hS => ?_)
  have hP : va_P G.1 vwCl [(q0, .inr (4, [.ref q1, .ref q4, .null, .int 0])), (q1, .inr (2, [.ref q2, .ref q3])), (q2, .inl (G.2.2.1, 3024, .inr (.inl (fun _ => 0)))), (q3, .inl (G.2.1, 5, .inl (fun _ => 0))), (q4, .inl (G.2.1, 5, .inl (fun _ => 0)))] H := hP
  have hD : va_D A [(q0, .inr (4, [.ref q1, .ref q4, .null, .int 0])), (q1, .inr (2, [.ref q2, .ref q3])), (q2, .inl (G.2.2.1, 3024, .inr (.inl (fun _ => 0)))), (q3, .inl (G.2.1, 5, .inl (fun _ => 0))), (q4, .inl (G.2.1, 5, .inl (fun _ => 0)))] := hD
  refine lv_aload_n hx hb dX4_init_22 rfl (lv_at hl 0 rfl) ?_
  refine lv_bipush (v := (6 : Int32)) hx hb dX4_init_23 (by decide) ?_
  refine nw_I (N := 6) C (hts _ mX4_init_7) hP hD hS (by decide) (by decide) (Nat.le_of_ble_eq_true rfl) (Nat.le_of_ble_eq_true rfl) (Nat.le_of_ble_eq_true rfl) dX4_init_25 (fun q5 H hP hD hS => ?_)
  have hP : va_P G.1 vwCl [(q0, .inr (4, [.ref q1, .ref q4, .null, .int 0])), (q1, .inr (2, [.ref q2, .ref q3])), (q2, .inl (G.2.2.1, 3024, .inr (.inl (fun _ => 0)))), (q3, .inl (G.2.1, 5, .inl (fun _ => 0))), (q4, .inl (G.2.1, 5, .inl (fun _ => 0))), (q5, .inl (G.2.1, 6, .inl (fun _ => 0)))] H := hP
  have hD : va_D A [(q0, .inr (4, [.ref q1, .ref q4, .null, .int 0])), (q1, .inr (2, [.ref q2, .ref q3])), (q2, .inl (G.2.2.1, 3024, .inr (.inl (fun _ => 0)))), (q3, .inl (G.2.1, 5, .inl (fun _ => 0))), (q4, .inl (G.2.1, 5, .inl (fun _ => 0))), (q5, .inl (G.2.1, 6, .inl (fun _ => 0)))] := hD
  refine W.widen (k := 5) (n := 3042) (Nat.le_of_ble_eq_true rfl) (Nat.le_of_ble_eq_true rfl) ?_
  refine va_putF (D := G.1) (ci := 4) (v := .ref q5) (ty := .array .int) (C := RX4) (T := TX4) (N := 4) hx hb hts nX4_init_X4 tyX4 tyX4_ok nmX4 hown hG.1 hP hD hS 0 rfl rfl 2 (by decide) (hts _ mX4_init_9) (fun _ h9 => h9) rfl hin rfl (by decide +kernel) rfl rfl (Nat.le_of_ble_eq_true rfl) dX4_init_27 (fun H locs hP hD hS => ?_)
  have hP : va_P G.1 vwCl [(q0, .inr (4, [.ref q1, .ref q4, .ref q5, .int 0])), (q1, .inr (2, [.ref q2, .ref q3])), (q2, .inl (G.2.2.1, 3024, .inr (.inl (fun _ => 0)))), (q3, .inl (G.2.1, 5, .inl (fun _ => 0))), (q4, .inl (G.2.1, 5, .inl (fun _ => 0))), (q5, .inl (G.2.1, 6, .inl (fun _ => 0)))] H := hP
  have hD : va_D A [(q0, .inr (4, [.ref q1, .ref q4, .ref q5, .int 0])), (q1, .inr (2, [.ref q2, .ref q3])), (q2, .inl (G.2.2.1, 3024, .inr (.inl (fun _ => 0)))), (q3, .inl (G.2.1, 5, .inl (fun _ => 0))), (q4, .inl (G.2.1, 5, .inl (fun _ => 0))), (q5, .inl (G.2.1, 6, .inl (fun _ => 0)))] := hD
  refine lv_aload_n hx hb dX4_init_30 rfl (lv_at hl 0 rfl) ?_
  refine lv_iconst (v := (-1 : Int32)) hx hb dX4_init_31 (by decide) ?_
  refine va_put (D := G.1) (ci := 4) (v := .int (-1 : Int32)) (ty := .int) (C := RX4) (T := TX4) (N := 4) hx hb hts nX4_init_X4 tyX4 tyX4_ok nmX4 hown hG.1 hP hD hS 0 rfl rfl 3 (by decide) (hts _ mX4_init_10) (fun _ h9 => h9) rfl (by decide +kernel) rfl rfl (Nat.le_of_ble_eq_true rfl) dX4_init_32 (fun H locs hP hD hS => ?_)
  have hP : va_P G.1 vwCl [(q0, .inr (4, [.ref q1, .ref q4, .ref q5, .int (-1 : Int32)])), (q1, .inr (2, [.ref q2, .ref q3])), (q2, .inl (G.2.2.1, 3024, .inr (.inl (fun _ => 0)))), (q3, .inl (G.2.1, 5, .inl (fun _ => 0))), (q4, .inl (G.2.1, 5, .inl (fun _ => 0))), (q5, .inl (G.2.1, 6, .inl (fun _ => 0)))] H := hP
  have hD : va_D A [(q0, .inr (4, [.ref q1, .ref q4, .ref q5, .int (-1 : Int32)])), (q1, .inr (2, [.ref q2, .ref q3])), (q2, .inl (G.2.2.1, 3024, .inr (.inl (fun _ => 0)))), (q3, .inl (G.2.1, 5, .inl (fun _ => 0))), (q4, .inl (G.2.1, 5, .inl (fun _ => 0))), (q5, .inl (G.2.1, 6, .inl (fun _ => 0)))] := hD
  have hP := hP.sub (ws' := [(q0, .inr (4, [.ref q1, .ref q4, .ref q5, .int (-1 : Int32)])), (q1, .inr (2, [.ref q2, .ref q3])), (q2, .inl (G.2.2.1, 3024, .inr (.inl (fun _ => 0)))), (q3, .inl (G.2.1, 5, .inl (fun _ => 0))), (q4, .inl (G.2.1, 5, .inl (fun _ => 0))), (q5, .inl (G.2.1, 6, .inl (fun _ => 0)))]) [0, 1, 2, 3, 4, 5] rfl
  have hD := hD.sub (ws' := [(q0, .inr (4, [.ref q1, .ref q4, .ref q5, .int (-1 : Int32)])), (q1, .inr (2, [.ref q2, .ref q3])), (q2, .inl (G.2.2.1, 3024, .inr (.inl (fun _ => 0)))), (q3, .inl (G.2.1, 5, .inl (fun _ => 0))), (q4, .inl (G.2.1, 5, .inl (fun _ => 0))), (q5, .inl (G.2.1, 6, .inl (fun _ => 0)))]) [0, 1, 2, 3, 4, 5] rfl rfl
  exact rt_c C (Nat.le_of_ble_eq_true rfl) (Nat.le_of_ble_eq_true rfl) ⟨q1, q2, q3, q4, q5, rfl⟩ hP hD hS dX4_init_35
set_option maxRecDepth 20000 in
theorem mX0_init_3024_0 : Cond.methodLink RX0 3 objectInit ∈ wsX0_init := by decide +kernel
set_option maxRecDepth 20000 in
theorem mX0_init_3024_1 : Cond.instanceMethod objectInit ∈ wsX0_init := by decide +kernel
set_option maxRecDepth 20000 in
theorem mX0_init_3024_2 : Cond.fieldLink RX0 9 "SchubertDesk$Ascending" "size" "I" ∈ wsX0_init := by decide +kernel
set_option maxRecDepth 20000 in
theorem mX0_init_3024_3 : Cond.methodLink RX0 15 Lib.Math.max.name ∈ wsX0_init := by decide +kernel
set_option maxRecDepth 20000 in
theorem mX0_init_3024_4 : Cond.static Lib.Math.max.name ∈ wsX0_init := by decide +kernel
set_option maxRecDepth 20000 in
theorem mX0_init_3024_5 : Cond.initialized "java/lang/Math" ∈ wsX0_init := by decide +kernel
set_option maxRecDepth 20000 in
theorem mX0_init_3024_6 : Cond.code Lib.Math.max.name Lib.Math.max.code 2 (some .int) ∈ wsX0_init := by decide +kernel
set_option maxRecDepth 20000 in
theorem mX0_init_3024_7 : Cond.arrayClass .int ∈ wsX0_init := by decide +kernel
set_option maxRecDepth 20000 in
theorem mX0_init_3024_8 : Cond.fieldLink RX0 21 "SchubertDesk$Ascending" "items" "[I" ∈ wsX0_init := by decide +kernel
set_option maxRecDepth 20000 in
theorem nX0_init_3024_X0 : ∀ w ∈ u_ws RX0 TX0 2, w ∈ wsX0_init := by decide +kernel
abbrev rmX0_init_3024 : Room := { frames := 1, cells := 1, slots := 3024, locals := 60 }
set_option maxHeartbeats 4000000 in
set_option maxRecDepth 100000 in
theorem tX0_init_3024 (l : Launch) (G : GX) (q0 : Nat) : Cn l yX0_init wsX0_init rmX0_init_3024 G [.ref q0, .int (3024 : Int32)] [(q0, .inr (0, [.null, .int 0]))] (fun w1 : va_W => ∃ q1 : Nat, w1 = [(q0, .inr (0, [.ref q1, .int (0 : Int32)])), (q1, .inl (G.2.1, 3024, .inl (fun _ => 0)))]) 1 3024 := by
  refine Cn.of (cc := cX0_init) (nL := 2) (ret := none) (by decide) rfl (Nat.le_of_ble_eq_true rfl) rfl ?_
  intro p e s m below meth c A ls C hin hP hD hl
  obtain ⟨hx, hb, hml, hown, hts, hr, hlocks, hA, hG⟩ := id C
  have hS : va_S A s.heap s.heap [] := va_S.rf
  refine lv_aload_n hx hb dX0_init_0 rfl (lv_at hl 0 rfl) ?_
  refine W.objInit hx hb hown (hts _ mX0_init_3024_0) (hts _ mX0_init_3024_1) (hts _ (List.mem_of_getElem? (i := 3) rfl)) rfl (by rw [hml]; exact hl.1) rfl dX0_init_1 (Nat.le_of_ble_eq_true rfl) (Nat.le_of_ble_eq_true rfl) ?_
  refine W.eq (g2 := F0 m 4 ls []) rfl ?_
  refine lv_aload_n hx hb dX0_init_4 rfl (lv_at hl 0 rfl) ?_
  refine lv_iconst (v := (0 : Int32)) hx hb dX0_init_5 (by decide) ?_
  refine va_put (D := G.1) (ci := 0) (v := .int (0 : Int32)) (ty := .int) (C := RX0) (T := TX0) (N := 2) hx hb hts nX0_init_3024_X0 tyX0 tyX0_ok nmX0 hown hG.1 hP hD hS 0 rfl rfl 1 (by decide) (hts _ mX0_init_3024_2) (fun _ h9 => h9) rfl (by decide +kernel) rfl rfl (Nat.le_of_ble_eq_true rfl) dX0_init_6 (fun H locs hP hD hS => ?_)
  have hP : va_P G.1 vwCl [(q0, .inr (0, [.null, .int (0 : Int32)]))] H := hP
  have hD : va_D A [(q0, .inr (0, [.null, .int (0 : Int32)]))] := hD
  refine lv_aload_n hx hb dX0_init_9 rfl (lv_at hl 0 rfl) ?_
  refine lv_iload_n hx hb dX0_init_10 rfl (lv_at hl 1 rfl) ?_
  refine lv_iconst (v := (1 : Int32)) hx hb dX0_init_11 (by decide) ?_
  refine va_mmax hx hb (hml.trans hl.1.symm) hown (hts _ mX0_init_3024_3) (hts _ mX0_init_3024_4) (hts _ mX0_init_3024_5) (hts _ mX0_init_3024_6) (Nat.le_of_ble_eq_true rfl) (Nat.le_of_ble_eq_true rfl) (Nat.zero_le _) (Nat.zero_le _) dX0_init_12 ?_
  refine nw_I (N := 3024) C (hts _ mX0_init_3024_7) hP hD hS (by decide) (by decide) (Nat.le_of_ble_eq_true rfl) (Nat.le_of_ble_eq_true rfl) (Nat.le_of_ble_eq_true rfl) dX0_init_15 (fun q1 H hP hD hS => ?_)
  have hP : va_P G.1 vwCl [(q0, .inr (0, [.null, .int (0 : Int32)])), (q1, .inl (G.2.1, 3024, .inl (fun _ => 0)))] H := hP
  have hD : va_D A [(q0, .inr (0, [.null, .int (0 : Int32)])), (q1, .inl (G.2.1, 3024, .inl (fun _ => 0)))] := hD
  refine W.widen (k := 1) (n := 3024) (Nat.le_of_ble_eq_true rfl) (Nat.le_of_ble_eq_true rfl) ?_
  refine va_putF (D := G.1) (ci := 0) (v := .ref q1) (ty := .array .int) (C := RX0) (T := TX0) (N := 2) hx hb hts nX0_init_3024_X0 tyX0 tyX0_ok nmX0 hown hG.1 hP hD hS 0 rfl rfl 0 (by decide) (hts _ mX0_init_3024_8) (fun _ h9 => h9) rfl hin rfl (by decide +kernel) rfl rfl (Nat.le_of_ble_eq_true rfl) dX0_init_17 (fun H locs hP hD hS => ?_)
  have hP : va_P G.1 vwCl [(q0, .inr (0, [.ref q1, .int (0 : Int32)])), (q1, .inl (G.2.1, 3024, .inl (fun _ => 0)))] H := hP
  have hD : va_D A [(q0, .inr (0, [.ref q1, .int (0 : Int32)])), (q1, .inl (G.2.1, 3024, .inl (fun _ => 0)))] := hD
  have hP := hP.sub (ws' := [(q0, .inr (0, [.ref q1, .int (0 : Int32)])), (q1, .inl (G.2.1, 3024, .inl (fun _ => 0)))]) [0, 1] rfl
  have hD := hD.sub (ws' := [(q0, .inr (0, [.ref q1, .int (0 : Int32)])), (q1, .inl (G.2.1, 3024, .inl (fun _ => 0)))]) [0, 1] rfl rfl
  exact rt_c C (Nat.le_of_ble_eq_true rfl) (Nat.le_of_ble_eq_true rfl) ⟨q1, rfl⟩ hP hD hS dX0_init_20
set_option maxRecDepth 20000 in
theorem mX3_init_0 : Cond.methodLink RX3 3 objectInit ∈ wsX3_init := by decide +kernel
set_option maxRecDepth 20000 in
theorem mX3_init_1 : Cond.instanceMethod objectInit ∈ wsX3_init := by decide +kernel
set_option maxRecDepth 20000 in
theorem mX3_init_2 : Cond.classLink RX3 9 RX2 ∈ wsX3_init := by decide +kernel
set_option maxRecDepth 20000 in
theorem mX3_init_3 : Cond.instantiable RX2 2 ∈ wsX3_init := by decide +kernel
set_option maxRecDepth 20000 in
theorem mX3_init_4 : Cond.initialized RX2 ∈ wsX3_init := by decide +kernel
set_option maxRecDepth 20000 in
theorem mX3_init_5 : Cond.instanceMethod yX2_init ∈ wsX3_init := by decide +kernel
set_option maxRecDepth 20000 in
theorem mX3_init_6 : Cond.fieldLink RX3 12 "SchubertDesk$Parts" "counts" "LSchubertDesk$Grid;" ∈ wsX3_init := by decide +kernel
set_option maxRecDepth 20000 in
theorem mX3_init_7 : Cond.classLink RX3 18 RX0 ∈ wsX3_init := by decide +kernel
set_option maxRecDepth 20000 in
theorem mX3_init_8 : Cond.instantiable RX0 2 ∈ wsX3_init := by decide +kernel
set_option maxRecDepth 20000 in
theorem mX3_init_9 : Cond.initialized RX0 ∈ wsX3_init := by decide +kernel
set_option maxRecDepth 20000 in
theorem mX3_init_10 : Cond.methodLink RX3 20 yX0_init ∈ wsX3_init := by decide +kernel
set_option maxRecDepth 20000 in
theorem mX3_init_11 : Cond.instanceMethod yX0_init ∈ wsX3_init := by decide +kernel
set_option maxRecDepth 20000 in
theorem mX3_init_12 : Cond.fieldLink RX3 23 "SchubertDesk$Parts" "numbers" "LSchubertDesk$Ascending;" ∈ wsX3_init := by decide +kernel
set_option maxRecDepth 20000 in
theorem mX3_init_13 : Cond.fieldLink RX3 27 "SchubertDesk$Parts" "known" "Z" ∈ wsX3_init := by decide +kernel
set_option maxRecDepth 20000 in
theorem nX3_init_X2 : ∀ w ∈ u_ws RX2 TX2 2, w ∈ wsX3_init := by decide +kernel
set_option maxRecDepth 20000 in
theorem nX3_init_X3 : ∀ w ∈ u_ws RX3 TX3 3, w ∈ wsX3_init := by decide +kernel
set_option maxRecDepth 20000 in
theorem nX3_init_X0 : ∀ w ∈ u_ws RX0 TX0 2, w ∈ wsX3_init := by decide +kernel
abbrev rmX3_init : Room := { frames := 2, cells := 5, slots := 6057, locals := 81 }
set_option maxHeartbeats 4000000 in
set_option maxRecDepth 100000 in
theorem tX3_init (l : Launch) (G : GX) (q0 : Nat) : Cn l yX3_init wsX3_init rmX3_init G [.ref q0] [(q0, .inr (3, [.null, .null, .int 0]))] (fun w1 : va_W => ∃ q1 q2 q3 q4 q5 : Nat, w1 = [(q0, .inr (3, [.ref q1, .ref q4, .int (0 : Int32)])), (q1, .inr (2, [.ref q2, .ref q3])), (q2, .inl (G.2.2.1, 3024, .inr (.inl (fun _ => 0)))), (q3, .inl (G.2.1, 5, .inl (fun _ => 0))), (q4, .inr (0, [.ref q5, .int (0 : Int32)])), (q5, .inl (G.2.1, 3024, .inl (fun _ => 0)))]) 5 6057 := by
  refine Cn.of (cc := cX3_init) (nL := 1) (ret := none) (by decide) rfl (Nat.le_of_ble_eq_true rfl) rfl ?_
  intro p e s m below meth c A ls C hin hP hD hl
  obtain ⟨hx, hb, hml, hown, hts, hr, hlocks, hA, hG⟩ := id C
  have hS : va_S A s.heap s.heap [] := va_S.rf
  refine lv_aload_n hx hb dX3_init_0 rfl (lv_at hl 0 rfl) ?_
  refine W.objInit hx hb hown (hts _ mX3_init_0) (hts _ mX3_init_1) (hts _ (List.mem_of_getElem? (i := 3) rfl)) rfl (by rw [hml]; exact hl.1) rfl dX3_init_1 (Nat.le_of_ble_eq_true rfl) (Nat.le_of_ble_eq_true rfl) ?_
  refine W.eq (g2 := F0 m 4 ls []) rfl ?_
  refine lv_aload_n hx hb dX3_init_4 rfl (lv_at hl 0 rfl) ?_
  refine va_new (ci := 2) (fs := [.null, .null]) (C := RX2) (T := TX2) (N := 2) hx hb hts nX3_init_X2 tyX2 tyX2_ok hown (hts _ mX3_init_2) (hts _ mX3_init_3) (hts _ mX3_init_4) hG.1 hP hD hS hA rfl (fun j hj => by rcases (show j = 0 ∨ j = 1 by omega) with rfl | rfl <;> rfl) (Nat.le_of_ble_eq_true rfl) (Nat.le_of_ble_eq_true rfl) dX3_init_5 (fun q1 H hP hD hS => ?_)
  have hP : va_P G.1 vwCl [(q0, .inr (3, [.null, .null, .int 0])), (q1, .inr (2, [.null, .null]))] H := hP
  have hD : va_D A [(q0, .inr (3, [.null, .null, .int 0])), (q1, .inr (2, [.null, .null]))] := hD
  refine W.widen (k := 1) (n := 2) (Nat.le_of_ble_eq_true rfl) (Nat.le_of_ble_eq_true rfl) ?_
  refine lv_dup hx hb dX3_init_8 rfl ?_
  refine cl_IN (host := RX5) (rest := [.ref q1, .ref q0]) (As := []) C hP hD hS (tX2_init l G q1) ⟨va_cnB 0 hts gX3_init_X2_init_n11 rfl rfl rfl (hG.2.1 (.methodLinkNest RX3 11 yX2_init RX5) (by decide +kernel)) (hts _ mX3_init_4) (by decide +kernel) ⟨Nat.le_of_ble_eq_true rfl, Nat.le_of_ble_eq_true rfl⟩, rfl, (hts _ mX3_init_5)⟩ [1] [0] rfl rfl rfl rfl (by decide) rfl hl.1 rfl (Nat.le_of_ble_eq_true rfl) dX3_init_9 ⟨Nat.le_of_ble_eq_true rfl, Nat.le_of_ble_eq_true rfl⟩ (fun w1 H locs hQ hP hD hS => ?_)
  obtain ⟨q2, q3, rfl⟩ := hQ
  have hP : va_P G.1 vwCl [(q0, .inr (3, [.null, .null, .int 0])), (q1, .inr (2, [.ref q2, .ref q3])), (q2, .inl (G.2.2.1, 3024, .inr (.inl (fun _ => 0)))), (q3, .inl (G.2.1, 5, .inl (fun _ => 0)))] H := hP
  have hD : va_D A [(q0, .inr (3, [.null, .null, .int 0])), (q1, .inr (2, [.ref q2, .ref q3])), (q2, .inl (G.2.2.1, 3024, .inr (.inl (fun _ => 0)))), (q3, .inl (G.2.1, 5, .inl (fun _ => 0)))] := hD
  refine W.widen (k := 3) (n := 3031) (Nat.le_of_ble_eq_true rfl) (Nat.le_of_ble_eq_true rfl) ?_
  refine va_putF (D := G.1) (ci := 3) (v := .ref q1) (ty := .object "SchubertDesk$Grid") (C := RX3) (T := TX3) (N := 3) hx hb hts nX3_init_X3 tyX3 tyX3_ok nmX3 hown hG.1 hP hD hS 0 rfl rfl 0 (by decide) (hts _ mX3_init_6) (fun _ h9 => h9) rfl hin rfl (by decide +kernel) rfl rfl (Nat.le_of_ble_eq_true rfl) dX3_init_12 (fun H locs hP hD hS => ?_)
  have hP : va_P G.1 vwCl [(q0, .inr (3, [.ref q1, .null, .int 0])), (q1, .inr (2, [.ref q2, .ref q3])), (q2, .inl (G.2.2.1, 3024, .inr (.inl (fun _ => 0)))), (q3, .inl (G.2.1, 5, .inl (fun _ => 0)))] H := hP
  have hD : va_D A [(q0, .inr (3, [.ref q1, .null, .int 0])), (q1, .inr (2, [.ref q2, .ref q3])), (q2, .inl (G.2.2.1, 3024, .inr (.inl (fun _ => 0)))), (q3, .inl (G.2.1, 5, .inl (fun _ => 0)))] := hD
  refine lv_aload_n hx hb dX3_init_15 rfl (lv_at hl 0 rfl) ?_
  refine va_new (ci := 0) (fs := [.null, .int 0]) (C := RX0) (T := TX0) (N := 2) hx hb hts nX3_init_X0 tyX0 tyX0_ok hown (hts _ mX3_init_7) (hts _ mX3_init_8) (hts _ mX3_init_9) hG.1 hP hD hS hA rfl (fun j hj => by rcases (show j = 0 ∨ j = 1 by omega) with rfl | rfl <;> rfl) (Nat.le_of_ble_eq_true rfl) (Nat.le_of_ble_eq_true rfl) dX3_init_16 (fun q4 H hP hD hS => ?_)
  have hP : va_P G.1 vwCl [(q0, .inr (3, [.ref q1, .null, .int 0])), (q1, .inr (2, [.ref q2, .ref q3])), (q2, .inl (G.2.2.1, 3024, .inr (.inl (fun _ => 0)))), (q3, .inl (G.2.1, 5, .inl (fun _ => 0))), (q4, .inr (0, [.null, .int 0]))] H := hP
  have hD : va_D A [(q0, .inr (3, [.ref q1, .null, .int 0])), (q1, .inr (2, [.ref q2, .ref q3])), (q2, .inl (G.2.2.1, 3024, .inr (.inl (fun _ => 0)))), (q3, .inl (G.2.1, 5, .inl (fun _ => 0))), (q4, .inr (0, [.null, .int 0]))] := hD
  refine W.widen (k := 4) (n := 3033) (Nat.le_of_ble_eq_true rfl) (Nat.le_of_ble_eq_true rfl) ?_
  refine lv_dup hx hb dX3_init_19 rfl ?_
  refine lv_sipush (v := (3024 : Int32)) hx hb dX3_init_20 (by decide) ?_
  refine cl_I (rest := [.ref q4, .ref q0]) (As := [.int (3024 : Int32)]) C hP hD hS (tX0_init_3024 l G q4) (cwI 1 hts gX3_init_X0_init rfl rfl rfl (hts _ mX3_init_9) (hts _ mX3_init_10) (hts _ mX3_init_11) rfl (by decide +kernel) ⟨Nat.le_of_ble_eq_true rfl, Nat.le_of_ble_eq_true rfl⟩) [4] [0, 1, 2, 3] rfl rfl rfl rfl (by decide) rfl hl.1 rfl (Nat.le_of_ble_eq_true rfl) dX3_init_23 ⟨Nat.le_of_ble_eq_true rfl, Nat.le_of_ble_eq_true rfl⟩ (fun w1 H locs hQ hP hD hS => ?_)
  obtain ⟨q5, rfl⟩ := hQ
  have hP : va_P G.1 vwCl [(q0, .inr (3, [.ref q1, .null, .int 0])), (q1, .inr (2, [.ref q2, .ref q3])), (q2, .inl (G.2.2.1, 3024, .inr (.inl (fun _ => 0)))), (q3, .inl (G.2.1, 5, .inl (fun _ => 0))), (q4, .inr (0, [.ref q5, .int (0 : Int32)])), (q5, .inl (G.2.1, 3024, .inl (fun _ => 0)))] H := hP
  have hD : va_D A [(q0, .inr (3, [.ref q1, .null, .int 0])), (q1, .inr (2, [.ref q2, .ref q3])), (q2, .inl (G.2.2.1, 3024, .inr (.inl (fun _ => 0)))), (q3, .inl (G.2.1, 5, .inl (fun _ => 0))), (q4, .inr (0, [.ref q5, .int (0 : Int32)])), (q5, .inl (G.2.1, 3024, .inl (fun _ => 0)))] := hD
  refine W.widen (k := 5) (n := 6057) (Nat.le_of_ble_eq_true rfl) (Nat.le_of_ble_eq_true rfl) ?_
  refine va_putF (D := G.1) (ci := 3) (v := .ref q4) (ty := .object "SchubertDesk$Ascending") (C := RX3) (T := TX3) (N := 3) hx hb hts nX3_init_X3 tyX3 tyX3_ok nmX3 hown hG.1 hP hD hS 0 rfl rfl 1 (by decide) (hts _ mX3_init_12) (fun _ h9 => h9) rfl hin rfl (by decide +kernel) rfl rfl (Nat.le_of_ble_eq_true rfl) dX3_init_26 (fun H locs hP hD hS => ?_)
  have hP : va_P G.1 vwCl [(q0, .inr (3, [.ref q1, .ref q4, .int 0])), (q1, .inr (2, [.ref q2, .ref q3])), (q2, .inl (G.2.2.1, 3024, .inr (.inl (fun _ => 0)))), (q3, .inl (G.2.1, 5, .inl (fun _ => 0))), (q4, .inr (0, [.ref q5, .int (0 : Int32)])), (q5, .inl (G.2.1, 3024, .inl (fun _ => 0)))] H := hP
  have hD : va_D A [(q0, .inr (3, [.ref q1, .ref q4, .int 0])), (q1, .inr (2, [.ref q2, .ref q3])), (q2, .inl (G.2.2.1, 3024, .inr (.inl (fun _ => 0)))), (q3, .inl (G.2.1, 5, .inl (fun _ => 0))), (q4, .inr (0, [.ref q5, .int (0 : Int32)])), (q5, .inl (G.2.1, 3024, .inl (fun _ => 0)))] := hD
  refine lv_aload_n hx hb dX3_init_29 rfl (lv_at hl 0 rfl) ?_
  refine lv_iconst (v := (0 : Int32)) hx hb dX3_init_30 (by decide) ?_
  refine va_put (D := G.1) (ci := 3) (v := .int (0 : Int32)) (ty := .boolean) (C := RX3) (T := TX3) (N := 3) hx hb hts nX3_init_X3 tyX3 tyX3_ok nmX3 hown hG.1 hP hD hS 0 rfl rfl 2 (by decide) (hts _ mX3_init_13) (fun _ h9 => h9) rfl (by decide +kernel) rfl rfl (Nat.le_of_ble_eq_true rfl) dX3_init_31 (fun H locs hP hD hS => ?_)
  have hP : va_P G.1 vwCl [(q0, .inr (3, [.ref q1, .ref q4, .int (0 : Int32)])), (q1, .inr (2, [.ref q2, .ref q3])), (q2, .inl (G.2.2.1, 3024, .inr (.inl (fun _ => 0)))), (q3, .inl (G.2.1, 5, .inl (fun _ => 0))), (q4, .inr (0, [.ref q5, .int (0 : Int32)])), (q5, .inl (G.2.1, 3024, .inl (fun _ => 0)))] H := hP
  have hD : va_D A [(q0, .inr (3, [.ref q1, .ref q4, .int (0 : Int32)])), (q1, .inr (2, [.ref q2, .ref q3])), (q2, .inl (G.2.2.1, 3024, .inr (.inl (fun _ => 0)))), (q3, .inl (G.2.1, 5, .inl (fun _ => 0))), (q4, .inr (0, [.ref q5, .int (0 : Int32)])), (q5, .inl (G.2.1, 3024, .inl (fun _ => 0)))] := hD
  have hP := hP.sub (ws' := [(q0, .inr (3, [.ref q1, .ref q4, .int (0 : Int32)])), (q1, .inr (2, [.ref q2, .ref q3])), (q2, .inl (G.2.2.1, 3024, .inr (.inl (fun _ => 0)))), (q3, .inl (G.2.1, 5, .inl (fun _ => 0))), (q4, .inr (0, [.ref q5, .int (0 : Int32)])), (q5, .inl (G.2.1, 3024, .inl (fun _ => 0)))]) [0, 1, 2, 3, 4, 5] rfl
  have hD := hD.sub (ws' := [(q0, .inr (3, [.ref q1, .ref q4, .int (0 : Int32)])), (q1, .inr (2, [.ref q2, .ref q3])), (q2, .inl (G.2.2.1, 3024, .inr (.inl (fun _ => 0)))), (q3, .inl (G.2.1, 5, .inl (fun _ => 0))), (q4, .inr (0, [.ref q5, .int (0 : Int32)])), (q5, .inl (G.2.1, 3024, .inl (fun _ => 0)))]) [0, 1, 2, 3, 4, 5] rfl rfl
  exact rt_c C (Nat.le_of_ble_eq_true rfl) (Nat.le_of_ble_eq_true rfl) ⟨q1, q2, q3, q4, q5, rfl⟩ hP hD hS dX3_init_34
set_option maxRecDepth 20000 in
theorem mX5_init_0 : Cond.methodLink RX5 3 objectInit ∈ wsX5_init := by decide +kernel
set_option maxRecDepth 20000 in
theorem mX5_init_1 : Cond.instanceMethod objectInit ∈ wsX5_init := by decide +kernel
set_option maxRecDepth 20000 in
theorem mX5_init_2 : Cond.classLink RX5 9 RX1 ∈ wsX5_init := by decide +kernel
set_option maxRecDepth 20000 in
theorem mX5_init_3 : Cond.instantiable RX1 1 ∈ wsX5_init := by decide +kernel
set_option maxRecDepth 20000 in
theorem mX5_init_4 : Cond.initialized RX1 ∈ wsX5_init := by decide +kernel
set_option maxRecDepth 20000 in
theorem mX5_init_5 : Cond.instanceMethod yX1_init ∈ wsX5_init := by decide +kernel
set_option maxRecDepth 20000 in
theorem mX5_init_6 : Cond.fieldLink RX5 12 "SchubertDesk" "first" "LSchubertDesk$Digits;" ∈ wsX5_init := by decide +kernel
set_option maxRecDepth 20000 in
theorem mX5_init_7 : Cond.fieldLink RX5 18 "SchubertDesk" "second" "LSchubertDesk$Digits;" ∈ wsX5_init := by decide +kernel
set_option maxRecDepth 20000 in
theorem mX5_init_8 : Cond.fieldLink RX5 21 "SchubertDesk" "third" "LSchubertDesk$Digits;" ∈ wsX5_init := by decide +kernel
set_option maxRecDepth 20000 in
theorem mX5_init_9 : Cond.classLink RX5 24 RX0 ∈ wsX5_init := by decide +kernel
set_option maxRecDepth 20000 in
theorem mX5_init_10 : Cond.instantiable RX0 2 ∈ wsX5_init := by decide +kernel
set_option maxRecDepth 20000 in
theorem mX5_init_11 : Cond.initialized RX0 ∈ wsX5_init := by decide +kernel
set_option maxRecDepth 20000 in
theorem mX5_init_12 : Cond.methodLink RX5 26 yX0_init ∈ wsX5_init := by decide +kernel
set_option maxRecDepth 20000 in
theorem mX5_init_13 : Cond.instanceMethod yX0_init ∈ wsX5_init := by decide +kernel
set_option maxRecDepth 20000 in
theorem mX5_init_14 : Cond.fieldLink RX5 29 "SchubertDesk" "list" "LSchubertDesk$Ascending;" ∈ wsX5_init := by decide +kernel
set_option maxRecDepth 20000 in
theorem mX5_init_15 : Cond.classLink RX5 33 RX2 ∈ wsX5_init := by decide +kernel
set_option maxRecDepth 20000 in
theorem mX5_init_16 : Cond.instantiable RX2 2 ∈ wsX5_init := by decide +kernel
set_option maxRecDepth 20000 in
theorem mX5_init_17 : Cond.initialized RX2 ∈ wsX5_init := by decide +kernel
set_option maxRecDepth 20000 in
theorem mX5_init_18 : Cond.instanceMethod yX2_init ∈ wsX5_init := by decide +kernel
set_option maxRecDepth 20000 in
theorem mX5_init_19 : Cond.fieldLink RX5 36 "SchubertDesk" "page" "LSchubertDesk$Grid;" ∈ wsX5_init := by decide +kernel
set_option maxRecDepth 20000 in
theorem mX5_init_20 : Cond.classLink RX5 40 RX4 ∈ wsX5_init := by decide +kernel
set_option maxRecDepth 20000 in
theorem mX5_init_21 : Cond.instantiable RX4 4 ∈ wsX5_init := by decide +kernel
set_option maxRecDepth 20000 in
theorem mX5_init_22 : Cond.initialized RX4 ∈ wsX5_init := by decide +kernel
set_option maxRecDepth 20000 in
theorem mX5_init_23 : Cond.instanceMethod yX4_init ∈ wsX5_init := by decide +kernel
set_option maxRecDepth 20000 in
theorem mX5_init_24 : Cond.fieldLink RX5 43 "SchubertDesk" "single" "LSchubertDesk$Single;" ∈ wsX5_init := by decide +kernel
set_option maxRecDepth 20000 in
theorem mX5_init_25 : Cond.classLink RX5 47 RX3 ∈ wsX5_init := by decide +kernel
set_option maxRecDepth 20000 in
theorem mX5_init_26 : Cond.instantiable RX3 3 ∈ wsX5_init := by decide +kernel
set_option maxRecDepth 20000 in
theorem mX5_init_27 : Cond.initialized RX3 ∈ wsX5_init := by decide +kernel
set_option maxRecDepth 20000 in
theorem mX5_init_28 : Cond.instanceMethod yX3_init ∈ wsX5_init := by decide +kernel
set_option maxRecDepth 20000 in
theorem mX5_init_29 : Cond.fieldLink RX5 50 "SchubertDesk" "parts" "LSchubertDesk$Parts;" ∈ wsX5_init := by decide +kernel
set_option maxRecDepth 20000 in
theorem nX5_init_X1 : ∀ w ∈ u_ws RX1 TX1 1, w ∈ wsX5_init := by decide +kernel
set_option maxRecDepth 20000 in
theorem nX5_init_X5 : ∀ w ∈ u_ws RX5 TX5 7, w ∈ wsX5_init := by decide +kernel
set_option maxRecDepth 20000 in
theorem nX5_init_X0 : ∀ w ∈ u_ws RX0 TX0 2, w ∈ wsX5_init := by decide +kernel
set_option maxRecDepth 20000 in
theorem nX5_init_X2 : ∀ w ∈ u_ws RX2 TX2 2, w ∈ wsX5_init := by decide +kernel
set_option maxRecDepth 20000 in
theorem nX5_init_X4 : ∀ w ∈ u_ws RX4 TX4 4, w ∈ wsX5_init := by decide +kernel
set_option maxRecDepth 20000 in
theorem nX5_init_X3 : ∀ w ∈ u_ws RX3 TX3 3, w ∈ wsX5_init := by decide +kernel
abbrev rmX5_init : Room := { frames := 3, cells := 23, slots := 12204, locals := 101 }
set_option maxHeartbeats 4000000 in
set_option maxRecDepth 100000 in
theorem tX5_init (l : Launch) (G : GX) (q0 : Nat) : Cn l yX5_init wsX5_init rmX5_init G [.ref q0] [(q0, .inr (5, [.null, .null, .null, .null, .null, .null, .null]))] (fun w1 : va_W => ∃ q1 q2 q3 q4 q5 q6 q7 q8 q9 q10 q11 q12 q13 q14 q15 q16 q17 q18 q19 q20 q21 q22 q23 : Nat, w1 = [(q0, .inr (5, [.ref q1, .ref q3, .ref q5, .ref q7, .ref q9, .ref q12, .ref q18])), (q1, .inr (1, [.ref q2])), (q2, .inl (G.2.1, 10, .inl (fun _ => 0))), (q3, .inr (1, [.ref q4])), (q4, .inl (G.2.1, 10, .inl (fun _ => 0))), (q5, .inr (1, [.ref q6])), (q6, .inl (G.2.1, 10, .inl (fun _ => 0))), (q7, .inr (0, [.ref q8, .int (0 : Int32)])), (q8, .inl (G.2.1, 32, .inl (fun _ => 0))), (q9, .inr (2, [.ref q10, .ref q11])), (q10, .inl (G.2.2.1, 3024, .inr (.inl (fun _ => 0)))), (q11, .inl (G.2.1, 5, .inl (fun _ => 0))), (q12, .inr (4, [.ref q13, .ref q16, .ref q17, .int (-1 : Int32)])), (q13, .inr (2, [.ref q14, .ref q15])), (q14, .inl (G.2.2.1, 3024, .inr (.inl (fun _ => 0)))), (q15, .inl (G.2.1, 5, .inl (fun _ => 0))), (q16, .inl (G.2.1, 5, .inl (fun _ => 0))), (q17, .inl (G.2.1, 6, .inl (fun _ => 0))), (q18, .inr (3, [.ref q19, .ref q22, .int (0 : Int32)])), (q19, .inr (2, [.ref q20, .ref q21])), (q20, .inl (G.2.2.1, 3024, .inr (.inl (fun _ => 0)))), (q21, .inl (G.2.1, 5, .inl (fun _ => 0))), (q22, .inr (0, [.ref q23, .int (0 : Int32)])), (q23, .inl (G.2.1, 3024, .inl (fun _ => 0)))]) 23 12204 := by
  refine Cn.of (cc := cX5_init) (nL := 1) (ret := none) (by decide) rfl (Nat.le_of_ble_eq_true rfl) rfl ?_
  intro p e s m below meth c A ls C hin hP hD hl
  obtain ⟨hx, hb, hml, hown, hts, hr, hlocks, hA, hG⟩ := id C
  have hS : va_S A s.heap s.heap [] := va_S.rf
  refine lv_aload_n hx hb dX5_init_0 rfl (lv_at hl 0 rfl) ?_
  refine W.objInit hx hb hown (hts _ mX5_init_0) (hts _ mX5_init_1) (hts _ (List.mem_of_getElem? (i := 3) rfl)) rfl (by rw [hml]; exact hl.1) rfl dX5_init_1 (Nat.le_of_ble_eq_true rfl) (Nat.le_of_ble_eq_true rfl) ?_
  refine W.eq (g2 := F0 m 4 ls []) rfl ?_
  refine lv_aload_n hx hb dX5_init_4 rfl (lv_at hl 0 rfl) ?_
  refine va_new (ci := 1) (fs := [.null]) (C := RX1) (T := TX1) (N := 1) hx hb hts nX5_init_X1 tyX1 tyX1_ok hown (hts _ mX5_init_2) (hts _ mX5_init_3) (hts _ mX5_init_4) hG.1 hP hD hS hA rfl (fun j hj => by rcases (show j = 0 by omega) with rfl <;> rfl) (Nat.le_of_ble_eq_true rfl) (Nat.le_of_ble_eq_true rfl) dX5_init_5 (fun q1 H hP hD hS => ?_)
  have hP : va_P G.1 vwCl [(q0, .inr (5, [.null, .null, .null, .null, .null, .null, .null])), (q1, .inr (1, [.null]))] H := hP
  have hD : va_D A [(q0, .inr (5, [.null, .null, .null, .null, .null, .null, .null])), (q1, .inr (1, [.null]))] := hD
  refine W.widen (k := 1) (n := 1) (Nat.le_of_ble_eq_true rfl) (Nat.le_of_ble_eq_true rfl) ?_
  refine lv_dup hx hb dX5_init_8 rfl ?_
  refine cl_IN (host := RX5) (rest := [.ref q1, .ref q0]) (As := []) C hP hD hS (tX1_init l G q1) ⟨va_cnB 0 hts gX5_init_X1_init_n11 rfl rfl rfl (hG.2.1 (.methodLinkNest RX5 11 yX1_init RX5) (by decide +kernel)) (hts _ mX5_init_4) (by decide +kernel) ⟨Nat.le_of_ble_eq_true rfl, Nat.le_of_ble_eq_true rfl⟩, rfl, (hts _ mX5_init_5)⟩ [1] [0] rfl rfl rfl rfl (by decide) rfl hl.1 rfl (Nat.le_of_ble_eq_true rfl) dX5_init_9 ⟨Nat.le_of_ble_eq_true rfl, Nat.le_of_ble_eq_true rfl⟩ (fun w1 H locs hQ hP hD hS => ?_)
  obtain ⟨q2, rfl⟩ := hQ
  have hP : va_P G.1 vwCl [(q0, .inr (5, [.null, .null, .null, .null, .null, .null, .null])), (q1, .inr (1, [.ref q2])), (q2, .inl (G.2.1, 10, .inl (fun _ => 0)))] H := hP
  have hD : va_D A [(q0, .inr (5, [.null, .null, .null, .null, .null, .null, .null])), (q1, .inr (1, [.ref q2])), (q2, .inl (G.2.1, 10, .inl (fun _ => 0)))] := hD
  refine W.widen (k := 2) (n := 11) (Nat.le_of_ble_eq_true rfl) (Nat.le_of_ble_eq_true rfl) ?_
  refine va_putF (D := G.1) (ci := 5) (v := .ref q1) (ty := .object "SchubertDesk$Digits") (C := RX5) (T := TX5) (N := 7) hx hb hts nX5_init_X5 tyX5 tyX5_ok nmX5 hown hG.1 hP hD hS 0 rfl rfl 0 (by decide) (hts _ mX5_init_6) (fun _ h9 => h9) rfl hin rfl (by decide +kernel) rfl rfl (Nat.le_of_ble_eq_true rfl) dX5_init_12 (fun H locs hP hD hS => ?_)
  have hP : va_P G.1 vwCl [(q0, .inr (5, [.ref q1, .null, .null, .null, .null, .null, .null])), (q1, .inr (1, [.ref q2])), (q2, .inl (G.2.1, 10, .inl (fun _ => 0)))] H := hP
  have hD : va_D A [(q0, .inr (5, [.ref q1, .null, .null, .null, .null, .null, .null])), (q1, .inr (1, [.ref q2])), (q2, .inl (G.2.1, 10, .inl (fun _ => 0)))] := hD
  refine lv_aload_n hx hb dX5_init_15 rfl (lv_at hl 0 rfl) ?_
  refine va_new (ci := 1) (fs := [.null]) (C := RX1) (T := TX1) (N := 1) hx hb hts nX5_init_X1 tyX1 tyX1_ok hown (hts _ mX5_init_2) (hts _ mX5_init_3) (hts _ mX5_init_4) hG.1 hP hD hS hA rfl (fun j hj => by rcases (show j = 0 by omega) with rfl <;> rfl) (Nat.le_of_ble_eq_true rfl) (Nat.le_of_ble_eq_true rfl) dX5_init_16 (fun q3 H hP hD hS => ?_)
  have hP : va_P G.1 vwCl [(q0, .inr (5, [.ref q1, .null, .null, .null, .null, .null, .null])), (q1, .inr (1, [.ref q2])), (q2, .inl (G.2.1, 10, .inl (fun _ => 0))), (q3, .inr (1, [.null]))] H := hP
  have hD : va_D A [(q0, .inr (5, [.ref q1, .null, .null, .null, .null, .null, .null])), (q1, .inr (1, [.ref q2])), (q2, .inl (G.2.1, 10, .inl (fun _ => 0))), (q3, .inr (1, [.null]))] := hD
  refine W.widen (k := 3) (n := 12) (Nat.le_of_ble_eq_true rfl) (Nat.le_of_ble_eq_true rfl) ?_
  refine lv_dup hx hb dX5_init_19 rfl ?_
  refine cl_IN (host := RX5) (rest := [.ref q3, .ref q0]) (As := []) C hP hD hS (tX1_init l G q3) ⟨va_cnB 0 hts gX5_init_X1_init_n11 rfl rfl rfl (hG.2.1 (.methodLinkNest RX5 11 yX1_init RX5) (by decide +kernel)) (hts _ mX5_init_4) (by decide +kernel) ⟨Nat.le_of_ble_eq_true rfl, Nat.le_of_ble_eq_true rfl⟩, rfl, (hts _ mX5_init_5)⟩ [3] [0, 1, 2] rfl rfl rfl rfl (by decide) rfl hl.1 rfl (Nat.le_of_ble_eq_true rfl) dX5_init_20 ⟨Nat.le_of_ble_eq_true rfl, Nat.le_of_ble_eq_true rfl⟩ (fun w1 H locs hQ hP hD hS => ?_)
  obtain ⟨q4, rfl⟩ := hQ
  have hP : va_P G.1 vwCl [(q0, .inr (5, [.ref q1, .null, .null, .null, .null, .null, .null])), (q1, .inr (1, [.ref q2])), (q2, .inl (G.2.1, 10, .inl (fun _ => 0))), (q3, .inr (1, [.ref q4])), (q4, .inl (G.2.1, 10, .inl (fun _ => 0)))] H := hP
  have hD : va_D A [(q0, .inr (5, [.ref q1, .null, .null, .null, .null, .null, .null])), (q1, .inr (1, [.ref q2])), (q2, .inl (G.2.1, 10, .inl (fun _ => 0))), (q3, .inr (1, [.ref q4])), (q4, .inl (G.2.1, 10, .inl (fun _ => 0)))] := hD
  refine W.widen (k := 4) (n := 22) (Nat.le_of_ble_eq_true rfl) (Nat.le_of_ble_eq_true rfl) ?_
  refine va_putF (D := G.1) (ci := 5) (v := .ref q3) (ty := .object "SchubertDesk$Digits") (C := RX5) (T := TX5) (N := 7) hx hb hts nX5_init_X5 tyX5 tyX5_ok nmX5 hown hG.1 hP hD hS 0 rfl rfl 1 (by decide) (hts _ mX5_init_7) (fun _ h9 => h9) rfl hin rfl (by decide +kernel) rfl rfl (Nat.le_of_ble_eq_true rfl) dX5_init_23 (fun H locs hP hD hS => ?_)
  have hP : va_P G.1 vwCl [(q0, .inr (5, [.ref q1, .ref q3, .null, .null, .null, .null, .null])), (q1, .inr (1, [.ref q2])), (q2, .inl (G.2.1, 10, .inl (fun _ => 0))), (q3, .inr (1, [.ref q4])), (q4, .inl (G.2.1, 10, .inl (fun _ => 0)))] H := hP
  have hD : va_D A [(q0, .inr (5, [.ref q1, .ref q3, .null, .null, .null, .null, .null])), (q1, .inr (1, [.ref q2])), (q2, .inl (G.2.1, 10, .inl (fun _ => 0))), (q3, .inr (1, [.ref q4])), (q4, .inl (G.2.1, 10, .inl (fun _ => 0)))] := hD
  refine lv_aload_n hx hb dX5_init_26 rfl (lv_at hl 0 rfl) ?_
  refine va_new (ci := 1) (fs := [.null]) (C := RX1) (T := TX1) (N := 1) hx hb hts nX5_init_X1 tyX1 tyX1_ok hown (hts _ mX5_init_2) (hts _ mX5_init_3) (hts _ mX5_init_4) hG.1 hP hD hS hA rfl (fun j hj => by rcases (show j = 0 by omega) with rfl <;> rfl) (Nat.le_of_ble_eq_true rfl) (Nat.le_of_ble_eq_true rfl) dX5_init_27 (fun q5 H hP hD hS => ?_)
  have hP : va_P G.1 vwCl [(q0, .inr (5, [.ref q1, .ref q3, .null, .null, .null, .null, .null])), (q1, .inr (1, [.ref q2])), (q2, .inl (G.2.1, 10, .inl (fun _ => 0))), (q3, .inr (1, [.ref q4])), (q4, .inl (G.2.1, 10, .inl (fun _ => 0))), (q5, .inr (1, [.null]))] H := hP
  have hD : va_D A [(q0, .inr (5, [.ref q1, .ref q3, .null, .null, .null, .null, .null])), (q1, .inr (1, [.ref q2])), (q2, .inl (G.2.1, 10, .inl (fun _ => 0))), (q3, .inr (1, [.ref q4])), (q4, .inl (G.2.1, 10, .inl (fun _ => 0))), (q5, .inr (1, [.null]))] := hD
  refine W.widen (k := 5) (n := 23) (Nat.le_of_ble_eq_true rfl) (Nat.le_of_ble_eq_true rfl) ?_
  refine lv_dup hx hb dX5_init_30 rfl ?_
  refine cl_IN (host := RX5) (rest := [.ref q5, .ref q0]) (As := []) C hP hD hS (tX1_init l G q5) ⟨va_cnB 0 hts gX5_init_X1_init_n11 rfl rfl rfl (hG.2.1 (.methodLinkNest RX5 11 yX1_init RX5) (by decide +kernel)) (hts _ mX5_init_4) (by decide +kernel) ⟨Nat.le_of_ble_eq_true rfl, Nat.le_of_ble_eq_true rfl⟩, rfl, (hts _ mX5_init_5)⟩ [5] [0, 1, 2, 3, 4] rfl rfl rfl rfl (by decide) rfl hl.1 rfl (Nat.le_of_ble_eq_true rfl) dX5_init_31 ⟨Nat.le_of_ble_eq_true rfl, Nat.le_of_ble_eq_true rfl⟩ (fun w1 H locs hQ hP hD hS => ?_)
  obtain ⟨q6, rfl⟩ := hQ
  have hP : va_P G.1 vwCl [(q0, .inr (5, [.ref q1, .ref q3, .null, .null, .null, .null, .null])), (q1, .inr (1, [.ref q2])), (q2, .inl (G.2.1, 10, .inl (fun _ => 0))), (q3, .inr (1, [.ref q4])), (q4, .inl (G.2.1, 10, .inl (fun _ => 0))), (q5, .inr (1, [.ref q6])), (q6, .inl (G.2.1, 10, .inl (fun _ => 0)))] H := hP
  have hD : va_D A [(q0, .inr (5, [.ref q1, .ref q3, .null, .null, .null, .null, .null])), (q1, .inr (1, [.ref q2])), (q2, .inl (G.2.1, 10, .inl (fun _ => 0))), (q3, .inr (1, [.ref q4])), (q4, .inl (G.2.1, 10, .inl (fun _ => 0))), (q5, .inr (1, [.ref q6])), (q6, .inl (G.2.1, 10, .inl (fun _ => 0)))] := hD
  refine W.widen (k := 6) (n := 33) (Nat.le_of_ble_eq_true rfl) (Nat.le_of_ble_eq_true rfl) ?_
  refine va_putF (D := G.1) (ci := 5) (v := .ref q5) (ty := .object "SchubertDesk$Digits") (C := RX5) (T := TX5) (N := 7) hx hb hts nX5_init_X5 tyX5 tyX5_ok nmX5 hown hG.1 hP hD hS 0 rfl rfl 2 (by decide) (hts _ mX5_init_8) (fun _ h9 => h9) rfl hin rfl (by decide +kernel) rfl rfl (Nat.le_of_ble_eq_true rfl) dX5_init_34 (fun H locs hP hD hS => ?_)
  have hP : va_P G.1 vwCl [(q0, .inr (5, [.ref q1, .ref q3, .ref q5, .null, .null, .null, .null])), (q1, .inr (1, [.ref q2])), (q2, .inl (G.2.1, 10, .inl (fun _ => 0))), (q3, .inr (1, [.ref q4])), (q4, .inl (G.2.1, 10, .inl (fun _ => 0))), (q5, .inr (1, [.ref q6])), (q6, .inl (G.2.1, 10, .inl (fun _ => 0)))] H := hP
  have hD : va_D A [(q0, .inr (5, [.ref q1, .ref q3, .ref q5, .null, .null, .null, .null])), (q1, .inr (1, [.ref q2])), (q2, .inl (G.2.1, 10, .inl (fun _ => 0))), (q3, .inr (1, [.ref q4])), (q4, .inl (G.2.1, 10, .inl (fun _ => 0))), (q5, .inr (1, [.ref q6])), (q6, .inl (G.2.1, 10, .inl (fun _ => 0)))] := hD
  refine lv_aload_n hx hb dX5_init_37 rfl (lv_at hl 0 rfl) ?_
  refine va_new (ci := 0) (fs := [.null, .int 0]) (C := RX0) (T := TX0) (N := 2) hx hb hts nX5_init_X0 tyX0 tyX0_ok hown (hts _ mX5_init_9) (hts _ mX5_init_10) (hts _ mX5_init_11) hG.1 hP hD hS hA rfl (fun j hj => by rcases (show j = 0 ∨ j = 1 by omega) with rfl | rfl <;> rfl) (Nat.le_of_ble_eq_true rfl) (Nat.le_of_ble_eq_true rfl) dX5_init_38 (fun q7 H hP hD hS => ?_)
  have hP : va_P G.1 vwCl [(q0, .inr (5, [.ref q1, .ref q3, .ref q5, .null, .null, .null, .null])), (q1, .inr (1, [.ref q2])), (q2, .inl (G.2.1, 10, .inl (fun _ => 0))), (q3, .inr (1, [.ref q4])), (q4, .inl (G.2.1, 10, .inl (fun _ => 0))), (q5, .inr (1, [.ref q6])), (q6, .inl (G.2.1, 10, .inl (fun _ => 0))), (q7, .inr (0, [.null, .int 0]))] H := hP
  have hD : va_D A [(q0, .inr (5, [.ref q1, .ref q3, .ref q5, .null, .null, .null, .null])), (q1, .inr (1, [.ref q2])), (q2, .inl (G.2.1, 10, .inl (fun _ => 0))), (q3, .inr (1, [.ref q4])), (q4, .inl (G.2.1, 10, .inl (fun _ => 0))), (q5, .inr (1, [.ref q6])), (q6, .inl (G.2.1, 10, .inl (fun _ => 0))), (q7, .inr (0, [.null, .int 0]))] := hD
  refine W.widen (k := 7) (n := 35) (Nat.le_of_ble_eq_true rfl) (Nat.le_of_ble_eq_true rfl) ?_
  refine lv_dup hx hb dX5_init_41 rfl ?_
  refine lv_bipush (v := (32 : Int32)) hx hb dX5_init_42 (by decide) ?_
  refine cl_I (rest := [.ref q7, .ref q0]) (As := [.int (32 : Int32)]) C hP hD hS (tX0_init_32 l G q7) (cwI 1 hts gX5_init_X0_init rfl rfl rfl (hts _ mX5_init_11) (hts _ mX5_init_12) (hts _ mX5_init_13) rfl (by decide +kernel) ⟨Nat.le_of_ble_eq_true rfl, Nat.le_of_ble_eq_true rfl⟩) [7] [0, 1, 2, 3, 4, 5, 6] rfl rfl rfl rfl (by decide) rfl hl.1 rfl (Nat.le_of_ble_eq_true rfl) dX5_init_44 ⟨Nat.le_of_ble_eq_true rfl, Nat.le_of_ble_eq_true rfl⟩ (fun w1 H locs hQ hP hD hS => ?_)
  obtain ⟨q8, rfl⟩ := hQ
  have hP : va_P G.1 vwCl [(q0, .inr (5, [.ref q1, .ref q3, .ref q5, .null, .null, .null, .null])), (q1, .inr (1, [.ref q2])), (q2, .inl (G.2.1, 10, .inl (fun _ => 0))), (q3, .inr (1, [.ref q4])), (q4, .inl (G.2.1, 10, .inl (fun _ => 0))), (q5, .inr (1, [.ref q6])), (q6, .inl (G.2.1, 10, .inl (fun _ => 0))), (q7, .inr (0, [.ref q8, .int (0 : Int32)])), (q8, .inl (G.2.1, 32, .inl (fun _ => 0)))] H := hP
  have hD : va_D A [(q0, .inr (5, [.ref q1, .ref q3, .ref q5, .null, .null, .null, .null])), (q1, .inr (1, [.ref q2])), (q2, .inl (G.2.1, 10, .inl (fun _ => 0))), (q3, .inr (1, [.ref q4])), (q4, .inl (G.2.1, 10, .inl (fun _ => 0))), (q5, .inr (1, [.ref q6])), (q6, .inl (G.2.1, 10, .inl (fun _ => 0))), (q7, .inr (0, [.ref q8, .int (0 : Int32)])), (q8, .inl (G.2.1, 32, .inl (fun _ => 0)))] := hD
  refine W.widen (k := 8) (n := 67) (Nat.le_of_ble_eq_true rfl) (Nat.le_of_ble_eq_true rfl) ?_
  refine va_putF (D := G.1) (ci := 5) (v := .ref q7) (ty := .object "SchubertDesk$Ascending") (C := RX5) (T := TX5) (N := 7) hx hb hts nX5_init_X5 tyX5 tyX5_ok nmX5 hown hG.1 hP hD hS 0 rfl rfl 3 (by decide) (hts _ mX5_init_14) (fun _ h9 => h9) rfl hin rfl (by decide +kernel) rfl rfl (Nat.le_of_ble_eq_true rfl) dX5_init_47 (fun H locs hP hD hS => ?_)
  have hP : va_P G.1 vwCl [(q0, .inr (5, [.ref q1, .ref q3, .ref q5, .ref q7, .null, .null, .null])), (q1, .inr (1, [.ref q2])), (q2, .inl (G.2.1, 10, .inl (fun _ => 0))), (q3, .inr (1, [.ref q4])), (q4, .inl (G.2.1, 10, .inl (fun _ => 0))), (q5, .inr (1, [.ref q6])), (q6, .inl (G.2.1, 10, .inl (fun _ => 0))), (q7, .inr (0, [.ref q8, .int (0 : Int32)])), (q8, .inl (G.2.1, 32, .inl (fun _ => 0)))] H := hP
  have hD : va_D A [(q0, .inr (5, [.ref q1, .ref q3, .ref q5, .ref q7, .null, .null, .null])), (q1, .inr (1, [.ref q2])), (q2, .inl (G.2.1, 10, .inl (fun _ => 0))), (q3, .inr (1, [.ref q4])), (q4, .inl (G.2.1, 10, .inl (fun _ => 0))), (q5, .inr (1, [.ref q6])), (q6, .inl (G.2.1, 10, .inl (fun _ => 0))), (q7, .inr (0, [.ref q8, .int (0 : Int32)])), (q8, .inl (G.2.1, 32, .inl (fun _ => 0)))] := hD
  refine lv_aload_n hx hb dX5_init_50 rfl (lv_at hl 0 rfl) ?_
  refine va_new (ci := 2) (fs := [.null, .null]) (C := RX2) (T := TX2) (N := 2) hx hb hts nX5_init_X2 tyX2 tyX2_ok hown (hts _ mX5_init_15) (hts _ mX5_init_16) (hts _ mX5_init_17) hG.1 hP hD hS hA rfl (fun j hj => by rcases (show j = 0 ∨ j = 1 by omega) with rfl | rfl <;> rfl) (Nat.le_of_ble_eq_true rfl) (Nat.le_of_ble_eq_true rfl) dX5_init_51 (fun q9 H hP hD hS => ?_)
  have hP : va_P G.1 vwCl [(q0, .inr (5, [.ref q1, .ref q3, .ref q5, .ref q7, .null, .null, .null])), (q1, .inr (1, [.ref q2])), (q2, .inl (G.2.1, 10, .inl (fun _ => 0))), (q3, .inr (1, [.ref q4])), (q4, .inl (G.2.1, 10, .inl (fun _ => 0))), (q5, .inr (1, [.ref q6])), (q6, .inl (G.2.1, 10, .inl (fun _ => 0))), (q7, .inr (0, [.ref q8, .int (0 : Int32)])), (q8, .inl (G.2.1, 32, .inl (fun _ => 0))), (q9, .inr (2, [.null, .null]))] H := hP
  have hD : va_D A [(q0, .inr (5, [.ref q1, .ref q3, .ref q5, .ref q7, .null, .null, .null])), (q1, .inr (1, [.ref q2])), (q2, .inl (G.2.1, 10, .inl (fun _ => 0))), (q3, .inr (1, [.ref q4])), (q4, .inl (G.2.1, 10, .inl (fun _ => 0))), (q5, .inr (1, [.ref q6])), (q6, .inl (G.2.1, 10, .inl (fun _ => 0))), (q7, .inr (0, [.ref q8, .int (0 : Int32)])), (q8, .inl (G.2.1, 32, .inl (fun _ => 0))), (q9, .inr (2, [.null, .null]))] := hD
  refine W.widen (k := 9) (n := 69) (Nat.le_of_ble_eq_true rfl) (Nat.le_of_ble_eq_true rfl) ?_
  refine lv_dup hx hb dX5_init_54 rfl ?_
  refine cl_IN (host := RX5) (rest := [.ref q9, .ref q0]) (As := []) C hP hD hS (tX2_init l G q9) ⟨va_cnB 0 hts gX5_init_X2_init_n35 rfl rfl rfl (hG.2.1 (.methodLinkNest RX5 35 yX2_init RX5) (by decide +kernel)) (hts _ mX5_init_17) (by decide +kernel) ⟨Nat.le_of_ble_eq_true rfl, Nat.le_of_ble_eq_true rfl⟩, rfl, (hts _ mX5_init_18)⟩ [9] [0, 1, 2, 3, 4, 5, 6, 7, 8] rfl rfl rfl rfl (by decide) rfl hl.1 rfl (Nat.le_of_ble_eq_true rfl) dX5_init_55 ⟨Nat.le_of_ble_eq_true rfl, Nat.le_of_ble_eq_true rfl⟩ (fun w1 H locs hQ hP hD hS => ?_)
  obtain ⟨q10, q11, rfl⟩ := hQ
  have hP : va_P G.1 vwCl [(q0, .inr (5, [.ref q1, .ref q3, .ref q5, .ref q7, .null, .null, .null])), (q1, .inr (1, [.ref q2])), (q2, .inl (G.2.1, 10, .inl (fun _ => 0))), (q3, .inr (1, [.ref q4])), (q4, .inl (G.2.1, 10, .inl (fun _ => 0))), (q5, .inr (1, [.ref q6])), (q6, .inl (G.2.1, 10, .inl (fun _ => 0))), (q7, .inr (0, [.ref q8, .int (0 : Int32)])), (q8, .inl (G.2.1, 32, .inl (fun _ => 0))), (q9, .inr (2, [.ref q10, .ref q11])), (q10, .inl (G.2.2.1, 3024, .inr (.inl (fun _ => 0)))), (q11, .inl (G.2.1, 5, .inl (fun _ => 0)))] H := hP
  have hD : va_D A [(q0, .inr (5, [.ref q1, .ref q3, .ref q5, .ref q7, .null, .null, .null])), (q1, .inr (1, [.ref q2])), (q2, .inl (G.2.1, 10, .inl (fun _ => 0))), (q3, .inr (1, [.ref q4])), (q4, .inl (G.2.1, 10, .inl (fun _ => 0))), (q5, .inr (1, [.ref q6])), (q6, .inl (G.2.1, 10, .inl (fun _ => 0))), (q7, .inr (0, [.ref q8, .int (0 : Int32)])), (q8, .inl (G.2.1, 32, .inl (fun _ => 0))), (q9, .inr (2, [.ref q10, .ref q11])), (q10, .inl (G.2.2.1, 3024, .inr (.inl (fun _ => 0)))), (q11, .inl (G.2.1, 5, .inl (fun _ => 0)))] := hD
  refine W.widen (k := 11) (n := 3098) (Nat.le_of_ble_eq_true rfl) (Nat.le_of_ble_eq_true rfl) ?_
  refine va_putF (D := G.1) (ci := 5) (v := .ref q9) (ty := .object "SchubertDesk$Grid") (C := RX5) (T := TX5) (N := 7) hx hb hts nX5_init_X5 tyX5 tyX5_ok nmX5 hown hG.1 hP hD hS 0 rfl rfl 4 (by decide) (hts _ mX5_init_19) (fun _ h9 => h9) rfl hin rfl (by decide +kernel) rfl rfl (Nat.le_of_ble_eq_true rfl) dX5_init_58 (fun H locs hP hD hS => ?_)
  have hP : va_P G.1 vwCl [(q0, .inr (5, [.ref q1, .ref q3, .ref q5, .ref q7, .ref q9, .null, .null])), (q1, .inr (1, [.ref q2])), (q2, .inl (G.2.1, 10, .inl (fun _ => 0))), (q3, .inr (1, [.ref q4])), (q4, .inl (G.2.1, 10, .inl (fun _ => 0))), (q5, .inr (1, [.ref q6])), (q6, .inl (G.2.1, 10, .inl (fun _ => 0))), (q7, .inr (0, [.ref q8, .int (0 : Int32)])), (q8, .inl (G.2.1, 32, .inl (fun _ => 0))), (q9, .inr (2, [.ref q10, .ref q11])), (q10, .inl (G.2.2.1, 3024, .inr (.inl (fun _ => 0)))), (q11, .inl (G.2.1, 5, .inl (fun _ => 0)))] H := hP
  have hD : va_D A [(q0, .inr (5, [.ref q1, .ref q3, .ref q5, .ref q7, .ref q9, .null, .null])), (q1, .inr (1, [.ref q2])), (q2, .inl (G.2.1, 10, .inl (fun _ => 0))), (q3, .inr (1, [.ref q4])), (q4, .inl (G.2.1, 10, .inl (fun _ => 0))), (q5, .inr (1, [.ref q6])), (q6, .inl (G.2.1, 10, .inl (fun _ => 0))), (q7, .inr (0, [.ref q8, .int (0 : Int32)])), (q8, .inl (G.2.1, 32, .inl (fun _ => 0))), (q9, .inr (2, [.ref q10, .ref q11])), (q10, .inl (G.2.2.1, 3024, .inr (.inl (fun _ => 0)))), (q11, .inl (G.2.1, 5, .inl (fun _ => 0)))] := hD
  refine lv_aload_n hx hb dX5_init_61 rfl (lv_at hl 0 rfl) ?_
  refine va_new (ci := 4) (fs := [.null, .null, .null, .int 0]) (C := RX4) (T := TX4) (N := 4) hx hb hts nX5_init_X4 tyX4 tyX4_ok hown (hts _ mX5_init_20) (hts _ mX5_init_21) (hts _ mX5_init_22) hG.1 hP hD hS hA rfl (fun j hj => by rcases (show j = 0 ∨ j = 1 ∨ j = 2 ∨ j = 3 by omega) with rfl | rfl | rfl | rfl <;> rfl) (Nat.le_of_ble_eq_true rfl) (Nat.le_of_ble_eq_true rfl) dX5_init_62 (fun q12 H hP hD hS => ?_)
  have hP : va_P G.1 vwCl [(q0, .inr (5, [.ref q1, .ref q3, .ref q5, .ref q7, .ref q9, .null, .null])), (q1, .inr (1, [.ref q2])), (q2, .inl (G.2.1, 10, .inl (fun _ => 0))), (q3, .inr (1, [.ref q4])), (q4, .inl (G.2.1, 10, .inl (fun _ => 0))), (q5, .inr (1, [.ref q6])), (q6, .inl (G.2.1, 10, .inl (fun _ => 0))), (q7, .inr (0, [.ref q8, .int (0 : Int32)])), (q8, .inl (G.2.1, 32, .inl (fun _ => 0))), (q9, .inr (2, [.ref q10, .ref q11])), (q10, .inl (G.2.2.1, 3024, .inr (.inl (fun _ => 0)))), (q11, .inl (G.2.1, 5, .inl (fun _ => 0))), (q12, .inr (4, [.null, .null, .null, .int 0]))] H := hP
  have hD : va_D A [(q0, .inr (5, [.ref q1, .ref q3, .ref q5, .ref q7, .ref q9, .null, .null])), (q1, .inr (1, [.ref q2])), (q2, .inl (G.2.1, 10, .inl (fun _ => 0))), (q3, .inr (1, [.ref q4])), (q4, .inl (G.2.1, 10, .inl (fun _ => 0))), (q5, .inr (1, [.ref q6])), (q6, .inl (G.2.1, 10, .inl (fun _ => 0))), (q7, .inr (0, [.ref q8, .int (0 : Int32)])), (q8, .inl (G.2.1, 32, .inl (fun _ => 0))), (q9, .inr (2, [.ref q10, .ref q11])), (q10, .inl (G.2.2.1, 3024, .inr (.inl (fun _ => 0)))), (q11, .inl (G.2.1, 5, .inl (fun _ => 0))), (q12, .inr (4, [.null, .null, .null, .int 0]))] := hD
  refine W.widen (k := 12) (n := 3102) (Nat.le_of_ble_eq_true rfl) (Nat.le_of_ble_eq_true rfl) ?_
  refine lv_dup hx hb dX5_init_65 rfl ?_
  refine cl_IN (host := RX5) (rest := [.ref q12, .ref q0]) (As := []) C hP hD hS (tX4_init l G q12) ⟨va_cnB 0 hts gX5_init_X4_init_n42 rfl rfl rfl (hG.2.1 (.methodLinkNest RX5 42 yX4_init RX5) (by decide +kernel)) (hts _ mX5_init_22) (by decide +kernel) ⟨Nat.le_of_ble_eq_true rfl, Nat.le_of_ble_eq_true rfl⟩, rfl, (hts _ mX5_init_23)⟩ [12] [0, 1, 2, 3, 4, 5, 6, 7, 8, 9, 10, 11] rfl rfl rfl rfl (by decide) rfl hl.1 rfl (Nat.le_of_ble_eq_true rfl) dX5_init_66 ⟨Nat.le_of_ble_eq_true rfl, Nat.le_of_ble_eq_true rfl⟩ (fun w1 H locs hQ hP hD hS => ?_)
  obtain ⟨q13, q14, q15, q16, q17, rfl⟩ := hQ
  have hP : va_P G.1 vwCl [(q0, .inr (5, [.ref q1, .ref q3, .ref q5, .ref q7, .ref q9, .null, .null])), (q1, .inr (1, [.ref q2])), (q2, .inl (G.2.1, 10, .inl (fun _ => 0))), (q3, .inr (1, [.ref q4])), (q4, .inl (G.2.1, 10, .inl (fun _ => 0))), (q5, .inr (1, [.ref q6])), (q6, .inl (G.2.1, 10, .inl (fun _ => 0))), (q7, .inr (0, [.ref q8, .int (0 : Int32)])), (q8, .inl (G.2.1, 32, .inl (fun _ => 0))), (q9, .inr (2, [.ref q10, .ref q11])), (q10, .inl (G.2.2.1, 3024, .inr (.inl (fun _ => 0)))), (q11, .inl (G.2.1, 5, .inl (fun _ => 0))), (q12, .inr (4, [.ref q13, .ref q16, .ref q17, .int (-1 : Int32)])), (q13, .inr (2, [.ref q14, .ref q15])), (q14, .inl (G.2.2.1, 3024, .inr (.inl (fun _ => 0)))), (q15, .inl (G.2.1, 5, .inl (fun _ => 0))), (q16, .inl (G.2.1, 5, .inl (fun _ => 0))), (q17, .inl (G.2.1, 6, .inl (fun _ => 0)))] H := hP
  have hD : va_D A [(q0, .inr (5, [.ref q1, .ref q3, .ref q5, .ref q7, .ref q9, .null, .null])), (q1, .inr (1, [.ref q2])), (q2, .inl (G.2.1, 10, .inl (fun _ => 0))), (q3, .inr (1, [.ref q4])), (q4, .inl (G.2.1, 10, .inl (fun _ => 0))), (q5, .inr (1, [.ref q6])), (q6, .inl (G.2.1, 10, .inl (fun _ => 0))), (q7, .inr (0, [.ref q8, .int (0 : Int32)])), (q8, .inl (G.2.1, 32, .inl (fun _ => 0))), (q9, .inr (2, [.ref q10, .ref q11])), (q10, .inl (G.2.2.1, 3024, .inr (.inl (fun _ => 0)))), (q11, .inl (G.2.1, 5, .inl (fun _ => 0))), (q12, .inr (4, [.ref q13, .ref q16, .ref q17, .int (-1 : Int32)])), (q13, .inr (2, [.ref q14, .ref q15])), (q14, .inl (G.2.2.1, 3024, .inr (.inl (fun _ => 0)))), (q15, .inl (G.2.1, 5, .inl (fun _ => 0))), (q16, .inl (G.2.1, 5, .inl (fun _ => 0))), (q17, .inl (G.2.1, 6, .inl (fun _ => 0)))] := hD
  refine W.widen (k := 17) (n := 6144) (Nat.le_of_ble_eq_true rfl) (Nat.le_of_ble_eq_true rfl) ?_
  refine va_putF (D := G.1) (ci := 5) (v := .ref q12) (ty := .object "SchubertDesk$Single") (C := RX5) (T := TX5) (N := 7) hx hb hts nX5_init_X5 tyX5 tyX5_ok nmX5 hown hG.1 hP hD hS 0 rfl rfl 5 (by decide) (hts _ mX5_init_24) (fun _ h9 => h9) rfl hin rfl (by decide +kernel) rfl rfl (Nat.le_of_ble_eq_true rfl) dX5_init_69 (fun H locs hP hD hS => ?_)
  have hP : va_P G.1 vwCl [(q0, .inr (5, [.ref q1, .ref q3, .ref q5, .ref q7, .ref q9, .ref q12, .null])), (q1, .inr (1, [.ref q2])), (q2, .inl (G.2.1, 10, .inl (fun _ => 0))), (q3, .inr (1, [.ref q4])), (q4, .inl (G.2.1, 10, .inl (fun _ => 0))), (q5, .inr (1, [.ref q6])), (q6, .inl (G.2.1, 10, .inl (fun _ => 0))), (q7, .inr (0, [.ref q8, .int (0 : Int32)])), (q8, .inl (G.2.1, 32, .inl (fun _ => 0))), (q9, .inr (2, [.ref q10, .ref q11])), (q10, .inl (G.2.2.1, 3024, .inr (.inl (fun _ => 0)))), (q11, .inl (G.2.1, 5, .inl (fun _ => 0))), (q12, .inr (4, [.ref q13, .ref q16, .ref q17, .int (-1 : Int32)])), (q13, .inr (2, [.ref q14, .ref q15])), (q14, .inl (G.2.2.1, 3024, .inr (.inl (fun _ => 0)))), (q15, .inl (G.2.1, 5, .inl (fun _ => 0))), (q16, .inl (G.2.1, 5, .inl (fun _ => 0))), (q17, .inl (G.2.1, 6, .inl (fun _ => 0)))] H := hP
  have hD : va_D A [(q0, .inr (5, [.ref q1, .ref q3, .ref q5, .ref q7, .ref q9, .ref q12, .null])), (q1, .inr (1, [.ref q2])), (q2, .inl (G.2.1, 10, .inl (fun _ => 0))), (q3, .inr (1, [.ref q4])), (q4, .inl (G.2.1, 10, .inl (fun _ => 0))), (q5, .inr (1, [.ref q6])), (q6, .inl (G.2.1, 10, .inl (fun _ => 0))), (q7, .inr (0, [.ref q8, .int (0 : Int32)])), (q8, .inl (G.2.1, 32, .inl (fun _ => 0))), (q9, .inr (2, [.ref q10, .ref q11])), (q10, .inl (G.2.2.1, 3024, .inr (.inl (fun _ => 0)))), (q11, .inl (G.2.1, 5, .inl (fun _ => 0))), (q12, .inr (4, [.ref q13, .ref q16, .ref q17, .int (-1 : Int32)])), (q13, .inr (2, [.ref q14, .ref q15])), (q14, .inl (G.2.2.1, 3024, .inr (.inl (fun _ => 0)))), (q15, .inl (G.2.1, 5, .inl (fun _ => 0))), (q16, .inl (G.2.1, 5, .inl (fun _ => 0))), (q17, .inl (G.2.1, 6, .inl (fun _ => 0)))] := hD
  refine lv_aload_n hx hb dX5_init_72 rfl (lv_at hl 0 rfl) ?_
  refine va_new (ci := 3) (fs := [.null, .null, .int 0]) (C := RX3) (T := TX3) (N := 3) hx hb hts nX5_init_X3 tyX3 tyX3_ok hown (hts _ mX5_init_25) (hts _ mX5_init_26) (hts _ mX5_init_27) hG.1 hP hD hS hA rfl (fun j hj => by rcases (show j = 0 ∨ j = 1 ∨ j = 2 by omega) with rfl | rfl | rfl <;> rfl) (Nat.le_of_ble_eq_true rfl) (Nat.le_of_ble_eq_true rfl) dX5_init_73 (fun q18 H hP hD hS => ?_)
  have hP : va_P G.1 vwCl [(q0, .inr (5, [.ref q1, .ref q3, .ref q5, .ref q7, .ref q9, .ref q12, .null])), (q1, .inr (1, [.ref q2])), (q2, .inl (G.2.1, 10, .inl (fun _ => 0))), (q3, .inr (1, [.ref q4])), (q4, .inl (G.2.1, 10, .inl (fun _ => 0))), (q5, .inr (1, [.ref q6])), (q6, .inl (G.2.1, 10, .inl (fun _ => 0))), (q7, .inr (0, [.ref q8, .int (0 : Int32)])), (q8, .inl (G.2.1, 32, .inl (fun _ => 0))), (q9, .inr (2, [.ref q10, .ref q11])), (q10, .inl (G.2.2.1, 3024, .inr (.inl (fun _ => 0)))), (q11, .inl (G.2.1, 5, .inl (fun _ => 0))), (q12, .inr (4, [.ref q13, .ref q16, .ref q17, .int (-1 : Int32)])), (q13, .inr (2, [.ref q14, .ref q15])), (q14, .inl (G.2.2.1, 3024, .inr (.inl (fun _ => 0)))), (q15, .inl (G.2.1, 5, .inl (fun _ => 0))), (q16, .inl (G.2.1, 5, .inl (fun _ => 0))), (q17, .inl (G.2.1, 6, .inl (fun _ => 0))), (q18, .inr (3, [.null, .null, .int 0]))] H := hP
  have hD : va_D A [(q0, .inr (5, [.ref q1, .ref q3, .ref q5, .ref q7, .ref q9, .ref q12, .null])), (q1, .inr (1, [.ref q2])), (q2, .inl (G.2.1, 10, .inl (fun _ => 0))), (q3, .inr (1, [.ref q4])), (q4, .inl (G.2.1, 10, .inl (fun _ => 0))), (q5, .inr (1, [.ref q6])), (q6, .inl (G.2.1, 10, .inl (fun _ => 0))), (q7, .inr (0, [.ref q8, .int (0 : Int32)])), (q8, .inl (G.2.1, 32, .inl (fun _ => 0))), (q9, .inr (2, [.ref q10, .ref q11])), (q10, .inl (G.2.2.1, 3024, .inr (.inl (fun _ => 0)))), (q11, .inl (G.2.1, 5, .inl (fun _ => 0))), (q12, .inr (4, [.ref q13, .ref q16, .ref q17, .int (-1 : Int32)])), (q13, .inr (2, [.ref q14, .ref q15])), (q14, .inl (G.2.2.1, 3024, .inr (.inl (fun _ => 0)))), (q15, .inl (G.2.1, 5, .inl (fun _ => 0))), (q16, .inl (G.2.1, 5, .inl (fun _ => 0))), (q17, .inl (G.2.1, 6, .inl (fun _ => 0))), (q18, .inr (3, [.null, .null, .int 0]))] := hD
  refine W.widen (k := 18) (n := 6147) (Nat.le_of_ble_eq_true rfl) (Nat.le_of_ble_eq_true rfl) ?_
  refine lv_dup hx hb dX5_init_76 rfl ?_
  refine cl_IN (host := RX5) (rest := [.ref q18, .ref q0]) (As := []) C hP hD hS (tX3_init l G q18) ⟨va_cnB 0 hts gX5_init_X3_init_n49 rfl rfl rfl (hG.2.1 (.methodLinkNest RX5 49 yX3_init RX5) (by decide +kernel)) (hts _ mX5_init_27) (by decide +kernel) ⟨Nat.le_of_ble_eq_true rfl, Nat.le_of_ble_eq_true rfl⟩, rfl, (hts _ mX5_init_28)⟩ [18] [0, 1, 2, 3, 4, 5, 6, 7, 8, 9, 10, 11, 12, 13, 14, 15, 16, 17] rfl rfl rfl rfl (by decide) rfl hl.1 rfl (Nat.le_of_ble_eq_true rfl) dX5_init_77 ⟨Nat.le_of_ble_eq_true rfl, Nat.le_of_ble_eq_true rfl⟩ (fun w1 H locs hQ hP hD hS => ?_)
  obtain ⟨q19, q20, q21, q22, q23, rfl⟩ := hQ
  have hP : va_P G.1 vwCl [(q0, .inr (5, [.ref q1, .ref q3, .ref q5, .ref q7, .ref q9, .ref q12, .null])), (q1, .inr (1, [.ref q2])), (q2, .inl (G.2.1, 10, .inl (fun _ => 0))), (q3, .inr (1, [.ref q4])), (q4, .inl (G.2.1, 10, .inl (fun _ => 0))), (q5, .inr (1, [.ref q6])), (q6, .inl (G.2.1, 10, .inl (fun _ => 0))), (q7, .inr (0, [.ref q8, .int (0 : Int32)])), (q8, .inl (G.2.1, 32, .inl (fun _ => 0))), (q9, .inr (2, [.ref q10, .ref q11])), (q10, .inl (G.2.2.1, 3024, .inr (.inl (fun _ => 0)))), (q11, .inl (G.2.1, 5, .inl (fun _ => 0))), (q12, .inr (4, [.ref q13, .ref q16, .ref q17, .int (-1 : Int32)])), (q13, .inr (2, [.ref q14, .ref q15])), (q14, .inl (G.2.2.1, 3024, .inr (.inl (fun _ => 0)))), (q15, .inl (G.2.1, 5, .inl (fun _ => 0))), (q16, .inl (G.2.1, 5, .inl (fun _ => 0))), (q17, .inl (G.2.1, 6, .inl (fun _ => 0))), (q18, .inr (3, [.ref q19, .ref q22, .int (0 : Int32)])), (q19, .inr (2, [.ref q20, .ref q21])), (q20, .inl (G.2.2.1, 3024, .inr (.inl (fun _ => 0)))), (q21, .inl (G.2.1, 5, .inl (fun _ => 0))), (q22, .inr (0, [.ref q23, .int (0 : Int32)])), (q23, .inl (G.2.1, 3024, .inl (fun _ => 0)))] H := hP
  have hD : va_D A [(q0, .inr (5, [.ref q1, .ref q3, .ref q5, .ref q7, .ref q9, .ref q12, .null])), (q1, .inr (1, [.ref q2])), (q2, .inl (G.2.1, 10, .inl (fun _ => 0))), (q3, .inr (1, [.ref q4])), (q4, .inl (G.2.1, 10, .inl (fun _ => 0))), (q5, .inr (1, [.ref q6])), (q6, .inl (G.2.1, 10, .inl (fun _ => 0))), (q7, .inr (0, [.ref q8, .int (0 : Int32)])), (q8, .inl (G.2.1, 32, .inl (fun _ => 0))), (q9, .inr (2, [.ref q10, .ref q11])), (q10, .inl (G.2.2.1, 3024, .inr (.inl (fun _ => 0)))), (q11, .inl (G.2.1, 5, .inl (fun _ => 0))), (q12, .inr (4, [.ref q13, .ref q16, .ref q17, .int (-1 : Int32)])), (q13, .inr (2, [.ref q14, .ref q15])), (q14, .inl (G.2.2.1, 3024, .inr (.inl (fun _ => 0)))), (q15, .inl (G.2.1, 5, .inl (fun _ => 0))), (q16, .inl (G.2.1, 5, .inl (fun _ => 0))), (q17, .inl (G.2.1, 6, .inl (fun _ => 0))), (q18, .inr (3, [.ref q19, .ref q22, .int (0 : Int32)])), (q19, .inr (2, [.ref q20, .ref q21])), (q20, .inl (G.2.2.1, 3024, .inr (.inl (fun _ => 0)))), (q21, .inl (G.2.1, 5, .inl (fun _ => 0))), (q22, .inr (0, [.ref q23, .int (0 : Int32)])), (q23, .inl (G.2.1, 3024, .inl (fun _ => 0)))] := hD
  refine W.widen (k := 23) (n := 12204) (Nat.le_of_ble_eq_true rfl) (Nat.le_of_ble_eq_true rfl) ?_
  refine va_putF (D := G.1) (ci := 5) (v := .ref q18) (ty := .object "SchubertDesk$Parts") (C := RX5) (T := TX5) (N := 7) hx hb hts nX5_init_X5 tyX5 tyX5_ok nmX5 hown hG.1 hP hD hS 0 rfl rfl 6 (by decide) (hts _ mX5_init_29) (fun _ h9 => h9) rfl hin rfl (by decide +kernel) rfl rfl (Nat.le_of_ble_eq_true rfl) dX5_init_80 (fun H locs hP hD hS => ?_)
  have hP : va_P G.1 vwCl [(q0, .inr (5, [.ref q1, .ref q3, .ref q5, .ref q7, .ref q9, .ref q12, .ref q18])), (q1, .inr (1, [.ref q2])), (q2, .inl (G.2.1, 10, .inl (fun _ => 0))), (q3, .inr (1, [.ref q4])), (q4, .inl (G.2.1, 10, .inl (fun _ => 0))), (q5, .inr (1, [.ref q6])), (q6, .inl (G.2.1, 10, .inl (fun _ => 0))), (q7, .inr (0, [.ref q8, .int (0 : Int32)])), (q8, .inl (G.2.1, 32, .inl (fun _ => 0))), (q9, .inr (2, [.ref q10, .ref q11])), (q10, .inl (G.2.2.1, 3024, .inr (.inl (fun _ => 0)))), (q11, .inl (G.2.1, 5, .inl (fun _ => 0))), (q12, .inr (4, [.ref q13, .ref q16, .ref q17, .int (-1 : Int32)])), (q13, .inr (2, [.ref q14, .ref q15])), (q14, .inl (G.2.2.1, 3024, .inr (.inl (fun _ => 0)))), (q15, .inl (G.2.1, 5, .inl (fun _ => 0))), (q16, .inl (G.2.1, 5, .inl (fun _ => 0))), (q17, .inl (G.2.1, 6, .inl (fun _ => 0))), (q18, .inr (3, [.ref q19, .ref q22, .int (0 : Int32)])), (q19, .inr (2, [.ref q20, .ref q21])), (q20, .inl (G.2.2.1, 3024, .inr (.inl (fun _ => 0)))), (q21, .inl (G.2.1, 5, .inl (fun _ => 0))), (q22, .inr (0, [.ref q23, .int (0 : Int32)])), (q23, .inl (G.2.1, 3024, .inl (fun _ => 0)))] H := hP
  have hD : va_D A [(q0, .inr (5, [.ref q1, .ref q3, .ref q5, .ref q7, .ref q9, .ref q12, .ref q18])), (q1, .inr (1, [.ref q2])), (q2, .inl (G.2.1, 10, .inl (fun _ => 0))), (q3, .inr (1, [.ref q4])), (q4, .inl (G.2.1, 10, .inl (fun _ => 0))), (q5, .inr (1, [.ref q6])), (q6, .inl (G.2.1, 10, .inl (fun _ => 0))), (q7, .inr (0, [.ref q8, .int (0 : Int32)])), (q8, .inl (G.2.1, 32, .inl (fun _ => 0))), (q9, .inr (2, [.ref q10, .ref q11])), (q10, .inl (G.2.2.1, 3024, .inr (.inl (fun _ => 0)))), (q11, .inl (G.2.1, 5, .inl (fun _ => 0))), (q12, .inr (4, [.ref q13, .ref q16, .ref q17, .int (-1 : Int32)])), (q13, .inr (2, [.ref q14, .ref q15])), (q14, .inl (G.2.2.1, 3024, .inr (.inl (fun _ => 0)))), (q15, .inl (G.2.1, 5, .inl (fun _ => 0))), (q16, .inl (G.2.1, 5, .inl (fun _ => 0))), (q17, .inl (G.2.1, 6, .inl (fun _ => 0))), (q18, .inr (3, [.ref q19, .ref q22, .int (0 : Int32)])), (q19, .inr (2, [.ref q20, .ref q21])), (q20, .inl (G.2.2.1, 3024, .inr (.inl (fun _ => 0)))), (q21, .inl (G.2.1, 5, .inl (fun _ => 0))), (q22, .inr (0, [.ref q23, .int (0 : Int32)])), (q23, .inl (G.2.1, 3024, .inl (fun _ => 0)))] := hD
  have hP := hP.sub (ws' := [(q0, .inr (5, [.ref q1, .ref q3, .ref q5, .ref q7, .ref q9, .ref q12, .ref q18])), (q1, .inr (1, [.ref q2])), (q2, .inl (G.2.1, 10, .inl (fun _ => 0))), (q3, .inr (1, [.ref q4])), (q4, .inl (G.2.1, 10, .inl (fun _ => 0))), (q5, .inr (1, [.ref q6])), (q6, .inl (G.2.1, 10, .inl (fun _ => 0))), (q7, .inr (0, [.ref q8, .int (0 : Int32)])), (q8, .inl (G.2.1, 32, .inl (fun _ => 0))), (q9, .inr (2, [.ref q10, .ref q11])), (q10, .inl (G.2.2.1, 3024, .inr (.inl (fun _ => 0)))), (q11, .inl (G.2.1, 5, .inl (fun _ => 0))), (q12, .inr (4, [.ref q13, .ref q16, .ref q17, .int (-1 : Int32)])), (q13, .inr (2, [.ref q14, .ref q15])), (q14, .inl (G.2.2.1, 3024, .inr (.inl (fun _ => 0)))), (q15, .inl (G.2.1, 5, .inl (fun _ => 0))), (q16, .inl (G.2.1, 5, .inl (fun _ => 0))), (q17, .inl (G.2.1, 6, .inl (fun _ => 0))), (q18, .inr (3, [.ref q19, .ref q22, .int (0 : Int32)])), (q19, .inr (2, [.ref q20, .ref q21])), (q20, .inl (G.2.2.1, 3024, .inr (.inl (fun _ => 0)))), (q21, .inl (G.2.1, 5, .inl (fun _ => 0))), (q22, .inr (0, [.ref q23, .int (0 : Int32)])), (q23, .inl (G.2.1, 3024, .inl (fun _ => 0)))]) [0, 1, 2, 3, 4, 5, 6, 7, 8, 9, 10, 11, 12, 13, 14, 15, 16, 17, 18, 19, 20, 21, 22, 23] rfl
  have hD := hD.sub (ws' := [(q0, .inr (5, [.ref q1, .ref q3, .ref q5, .ref q7, .ref q9, .ref q12, .ref q18])), (q1, .inr (1, [.ref q2])), (q2, .inl (G.2.1, 10, .inl (fun _ => 0))), (q3, .inr (1, [.ref q4])), (q4, .inl (G.2.1, 10, .inl (fun _ => 0))), (q5, .inr (1, [.ref q6])), (q6, .inl (G.2.1, 10, .inl (fun _ => 0))), (q7, .inr (0, [.ref q8, .int (0 : Int32)])), (q8, .inl (G.2.1, 32, .inl (fun _ => 0))), (q9, .inr (2, [.ref q10, .ref q11])), (q10, .inl (G.2.2.1, 3024, .inr (.inl (fun _ => 0)))), (q11, .inl (G.2.1, 5, .inl (fun _ => 0))), (q12, .inr (4, [.ref q13, .ref q16, .ref q17, .int (-1 : Int32)])), (q13, .inr (2, [.ref q14, .ref q15])), (q14, .inl (G.2.2.1, 3024, .inr (.inl (fun _ => 0)))), (q15, .inl (G.2.1, 5, .inl (fun _ => 0))), (q16, .inl (G.2.1, 5, .inl (fun _ => 0))), (q17, .inl (G.2.1, 6, .inl (fun _ => 0))), (q18, .inr (3, [.ref q19, .ref q22, .int (0 : Int32)])), (q19, .inr (2, [.ref q20, .ref q21])), (q20, .inl (G.2.2.1, 3024, .inr (.inl (fun _ => 0)))), (q21, .inl (G.2.1, 5, .inl (fun _ => 0))), (q22, .inr (0, [.ref q23, .int (0 : Int32)])), (q23, .inl (G.2.1, 3024, .inl (fun _ => 0)))]) [0, 1, 2, 3, 4, 5, 6, 7, 8, 9, 10, 11, 12, 13, 14, 15, 16, 17, 18, 19, 20, 21, 22, 23] rfl rfl
  exact rt_c C (Nat.le_of_ble_eq_true rfl) (Nat.le_of_ble_eq_true rfl) ⟨q1, q2, q3, q4, q5, q6, q7, q8, q9, q10, q11, q12, q13, q14, q15, q16, q17, q18, q19, q20, q21, q22, q23, rfl⟩ hP hD hS dX5_init_83
set_option maxRecDepth 20000 in
theorem mX6_init_0 : Cond.methodLink RX6 1 objectInit ∈ wsX6_init := by decide +kernel
set_option maxRecDepth 20000 in
theorem mX6_init_1 : Cond.instanceMethod objectInit ∈ wsX6_init := by decide +kernel
set_option maxRecDepth 20000 in
theorem mX6_init_2 : Cond.arrayClass .int ∈ wsX6_init := by decide +kernel
set_option maxRecDepth 20000 in
theorem mX6_init_3 : Cond.fieldLink RX6 7 "SchubertDeskModel" "one" "[I" ∈ wsX6_init := by decide +kernel
set_option maxRecDepth 20000 in
theorem mX6_init_4 : Cond.fieldLink RX6 13 "SchubertDeskModel" "other" "[I" ∈ wsX6_init := by decide +kernel
set_option maxRecDepth 20000 in
theorem mX6_init_5 : Cond.fieldLink RX6 16 "SchubertDeskModel" "third" "[I" ∈ wsX6_init := by decide +kernel
set_option maxRecDepth 20000 in
theorem mX6_init_6 : Cond.fieldLink RX6 19 "SchubertDeskModel" "waysTo" "[I" ∈ wsX6_init := by decide +kernel
set_option maxRecDepth 20000 in
theorem mX6_init_7 : Cond.arrayClass .long ∈ wsX6_init := by decide +kernel
set_option maxRecDepth 20000 in
theorem mX6_init_8 : Cond.fieldLink RX6 22 "SchubertDeskModel" "poly" "[J" ∈ wsX6_init := by decide +kernel
set_option maxRecDepth 20000 in
theorem mX6_init_9 : Cond.fieldLink RX6 26 "SchubertDeskModel" "then" "[J" ∈ wsX6_init := by decide +kernel
set_option maxRecDepth 20000 in
theorem mX6_init_10 : Cond.fieldLink RX6 29 "SchubertDeskModel" "steps" "[I" ∈ wsX6_init := by decide +kernel
set_option maxRecDepth 20000 in
theorem mX6_init_11 : Cond.fieldLink RX6 32 "SchubertDeskModel" "sheet" "[J" ∈ wsX6_init := by decide +kernel
set_option maxRecDepth 20000 in
theorem mX6_init_12 : Cond.fieldLink RX6 35 "SchubertDeskModel" "next" "[J" ∈ wsX6_init := by decide +kernel
set_option maxRecDepth 20000 in
theorem mX6_init_13 : Cond.constant RX6 38 (36465) ∈ wsX6_init := by decide +kernel
set_option maxRecDepth 20000 in
theorem mX6_init_14 : Cond.fieldLink RX6 39 "SchubertDeskModel" "wide" "[J" ∈ wsX6_init := by decide +kernel
set_option maxRecDepth 20000 in
theorem mX6_init_15 : Cond.fieldLink RX6 42 "SchubertDeskModel" "partOf" "[I" ∈ wsX6_init := by decide +kernel
set_option maxRecDepth 20000 in
theorem mX6_init_16 : Cond.fieldLink RX6 45 "SchubertDeskModel" "partTimes" "[J" ∈ wsX6_init := by decide +kernel
set_option maxRecDepth 20000 in
theorem mX6_init_17 : Cond.fieldLink RX6 48 "SchubertDeskModel" "foundAt" "[I" ∈ wsX6_init := by decide +kernel
set_option maxRecDepth 20000 in
theorem nX6_init_X6 : ∀ w ∈ u_ws RX6 TX6 16, w ∈ wsX6_init := by decide +kernel
abbrev rmX6_init : Room := { frames := 1, cells := 13, slots := 54887, locals := 60 }
set_option maxHeartbeats 4000000 in
set_option maxRecDepth 100000 in
theorem tX6_init (l : Launch) (G : GX) (q0 : Nat) : Cn l yX6_init wsX6_init rmX6_init G [.ref q0] [(q0, .inr (6, [.null, .null, .null, .null, .null, .null, .null, .null, .null, .int 0, .null, .int 0, .null, .null, .int 0, .null]))] (fun w1 : va_W => ∃ q1 q2 q3 q4 q5 q6 q7 q8 q9 q10 q11 q12 q13 : Nat, w1 = [(q0, .inr (6, [.ref q1, .ref q2, .ref q3, .ref q4, .ref q5, .ref q6, .ref q7, .ref q8, .ref q9, .int 0, .ref q10, .int 0, .ref q11, .ref q12, .int 0, .ref q13])), (q1, .inl (G.2.1, 10, .inl (fun _ => 0))), (q2, .inl (G.2.1, 10, .inl (fun _ => 0))), (q3, .inl (G.2.1, 10, .inl (fun _ => 0))), (q4, .inl (G.2.1, 120, .inl (fun _ => 0))), (q5, .inl (G.2.2.1, 3024, .inr (.inl (fun _ => 0)))), (q6, .inl (G.2.2.1, 3024, .inr (.inl (fun _ => 0)))), (q7, .inl (G.2.1, 64, .inl (fun _ => 0))), (q8, .inl (G.2.2.1, 3024, .inr (.inl (fun _ => 0)))), (q9, .inl (G.2.2.1, 3024, .inr (.inl (fun _ => 0)))), (q10, .inl (G.2.2.1, 36465, .inr (.inl (fun _ => 0)))), (q11, .inl (G.2.1, 3024, .inl (fun _ => 0))), (q12, .inl (G.2.2.1, 3024, .inr (.inl (fun _ => 0)))), (q13, .inl (G.2.1, 64, .inl (fun _ => 0)))]) 13 54887 := by
  refine Cn.of (cc := cX6_init) (nL := 1) (ret := none) (by decide) rfl (Nat.le_of_ble_eq_true rfl) rfl ?_
  intro p e s m below meth c A ls C hin hP hD hl
  obtain ⟨hx, hb, hml, hown, hts, hr, hlocks, hA, hG⟩ := id C
  have hS : va_S A s.heap s.heap [] := va_S.rf
  refine lv_aload_n hx hb dX6_init_0 rfl (lv_at hl 0 rfl) ?_
  refine W.objInit hx hb hown (hts _ mX6_init_0) (hts _ mX6_init_1) (hts _ (List.mem_of_getElem? (i := 3) rfl)) rfl (by rw [hml]; exact hl.1) rfl dX6_init_1 (Nat.le_of_ble_eq_true rfl) (Nat.le_of_ble_eq_true rfl) ?_
  refine W.eq (g2 := F0 m 4 ls []) rfl ?_
  refine lv_aload_n hx hb dX6_init_4 rfl (lv_at hl 0 rfl) ?_
  refine lv_bipush (v := (10 : Int32)) hx hb dX6_init_5 (by decide) ?_
  refine nw_I (N := 10) C (hts _ mX6_init_2) hP hD hS (by decide) (by decide) (Nat.le_of_ble_eq_true rfl) (Nat.le_of_ble_eq_true rfl) (Nat.le_of_ble_eq_true rfl) dX6_init_7 (fun q1 H hP hD hS => ?_)
  have hP : va_P G.1 vwCl [(q0, .inr (6, [.null, .null, .null, .null, .null, .null, .null, .null, .null, .int 0, .null, .int 0, .null, .null, .int 0, .null])), (q1, .inl (G.2.1, 10, .inl (fun _ => 0)))] H := hP
  have hD : va_D A [(q0, .inr (6, [.null, .null, .null, .null, .null, .null, .null, .null, .null, .int 0, .null, .int 0, .null, .null, .int 0, .null])), (q1, .inl (G.2.1, 10, .inl (fun _ => 0)))] := hD
  refine W.widen (k := 1) (n := 10) (Nat.le_of_ble_eq_true rfl) (Nat.le_of_ble_eq_true rfl) ?_
  refine va_putF (D := G.1) (ci := 6) (v := .ref q1) (ty := .array .int) (C := RX6) (T := TX6) (N := 16) hx hb hts nX6_init_X6 tyX6 tyX6_ok nmX6 hown hG.1 hP hD hS 0 rfl rfl 0 (by decide) (hts _ mX6_init_3) (fun _ h9 => h9) rfl hin rfl (by decide +kernel) rfl rfl (Nat.le_of_ble_eq_true rfl) dX6_init_9 (fun H locs hP hD hS => ?_)
  have hP : va_P G.1 vwCl [(q0, .inr (6, [.ref q1, .null, .null, .null, .null, .null, .null, .null, .null, .int 0, .null, .int 0, .null, .null, .int 0, .null])), (q1, .inl (G.2.1, 10, .inl (fun _ => 0)))] H := hP
  have hD : va_D A [(q0, .inr (6, [.ref q1, .null, .null, .null, .null, .null, .null, .null, .null, .int 0, .null, .int 0, .null, .null, .int 0, .null])), (q1, .inl (G.2.1, 10, .inl (fun _ => 0)))] := hD
  refine lv_aload_n hx hb dX6_init_12 rfl (lv_at hl 0 rfl) ?_
  refine lv_bipush (v := (10 : Int32)) hx hb dX6_init_13 (by decide) ?_
  refine nw_I (N := 10) C (hts _ mX6_init_2) hP hD hS (by decide) (by decide) (Nat.le_of_ble_eq_true rfl) (Nat.le_of_ble_eq_true rfl) (Nat.le_of_ble_eq_true rfl) dX6_init_15 (fun q2 H hP hD hS => ?_)
  have hP : va_P G.1 vwCl [(q0, .inr (6, [.ref q1, .null, .null, .null, .null, .null, .null, .null, .null, .int 0, .null, .int 0, .null, .null, .int 0, .null])), (q1, .inl (G.2.1, 10, .inl (fun _ => 0))), (q2, .inl (G.2.1, 10, .inl (fun _ => 0)))] H := hP
  have hD : va_D A [(q0, .inr (6, [.ref q1, .null, .null, .null, .null, .null, .null, .null, .null, .int 0, .null, .int 0, .null, .null, .int 0, .null])), (q1, .inl (G.2.1, 10, .inl (fun _ => 0))), (q2, .inl (G.2.1, 10, .inl (fun _ => 0)))] := hD
  refine W.widen (k := 2) (n := 20) (Nat.le_of_ble_eq_true rfl) (Nat.le_of_ble_eq_true rfl) ?_
  refine va_putF (D := G.1) (ci := 6) (v := .ref q2) (ty := .array .int) (C := RX6) (T := TX6) (N := 16) hx hb hts nX6_init_X6 tyX6 tyX6_ok nmX6 hown hG.1 hP hD hS 0 rfl rfl 1 (by decide) (hts _ mX6_init_4) (fun _ h9 => h9) rfl hin rfl (by decide +kernel) rfl rfl (Nat.le_of_ble_eq_true rfl) dX6_init_17 (fun H locs hP hD hS => ?_)
  have hP : va_P G.1 vwCl [(q0, .inr (6, [.ref q1, .ref q2, .null, .null, .null, .null, .null, .null, .null, .int 0, .null, .int 0, .null, .null, .int 0, .null])), (q1, .inl (G.2.1, 10, .inl (fun _ => 0))), (q2, .inl (G.2.1, 10, .inl (fun _ => 0)))] H := hP
  have hD : va_D A [(q0, .inr (6, [.ref q1, .ref q2, .null, .null, .null, .null, .null, .null, .null, .int 0, .null, .int 0, .null, .null, .int 0, .null])), (q1, .inl (G.2.1, 10, .inl (fun _ => 0))), (q2, .inl (G.2.1, 10, .inl (fun _ => 0)))] := hD
  refine lv_aload_n hx hb dX6_init_20 rfl (lv_at hl 0 rfl) ?_
  refine lv_bipush (v := (10 : Int32)) hx hb dX6_init_21 (by decide) ?_
  refine nw_I (N := 10) C (hts _ mX6_init_2) hP hD hS (by decide) (by decide) (Nat.le_of_ble_eq_true rfl) (Nat.le_of_ble_eq_true rfl) (Nat.le_of_ble_eq_true rfl) dX6_init_23 (fun q3 H hP hD hS => ?_)
  have hP : va_P G.1 vwCl [(q0, .inr (6, [.ref q1, .ref q2, .null, .null, .null, .null, .null, .null, .null, .int 0, .null, .int 0, .null, .null, .int 0, .null])), (q1, .inl (G.2.1, 10, .inl (fun _ => 0))), (q2, .inl (G.2.1, 10, .inl (fun _ => 0))), (q3, .inl (G.2.1, 10, .inl (fun _ => 0)))] H := hP
  have hD : va_D A [(q0, .inr (6, [.ref q1, .ref q2, .null, .null, .null, .null, .null, .null, .null, .int 0, .null, .int 0, .null, .null, .int 0, .null])), (q1, .inl (G.2.1, 10, .inl (fun _ => 0))), (q2, .inl (G.2.1, 10, .inl (fun _ => 0))), (q3, .inl (G.2.1, 10, .inl (fun _ => 0)))] := hD
  refine W.widen (k := 3) (n := 30) (Nat.le_of_ble_eq_true rfl) (Nat.le_of_ble_eq_true rfl) ?_
  refine va_putF (D := G.1) (ci := 6) (v := .ref q3) (ty := .array .int) (C := RX6) (T := TX6) (N := 16) hx hb hts nX6_init_X6 tyX6 tyX6_ok nmX6 hown hG.1 hP hD hS 0 rfl rfl 2 (by decide) (hts _ mX6_init_5) (fun _ h9 => h9) rfl hin rfl (by decide +kernel) rfl rfl (Nat.le_of_ble_eq_true rfl) dX6_init_25 (fun H locs hP hD hS => ?_)
  have hP : va_P G.1 vwCl [(q0, .inr (6, [.ref q1, .ref q2, .ref q3, .null, .null, .null, .null, .null, .null, .int 0, .null, .int 0, .null, .null, .int 0, .null])), (q1, .inl (G.2.1, 10, .inl (fun _ => 0))), (q2, .inl (G.2.1, 10, .inl (fun _ => 0))), (q3, .inl (G.2.1, 10, .inl (fun _ => 0)))] H := hP
  have hD : va_D A [(q0, .inr (6, [.ref q1, .ref q2, .ref q3, .null, .null, .null, .null, .null, .null, .int 0, .null, .int 0, .null, .null, .int 0, .null])), (q1, .inl (G.2.1, 10, .inl (fun _ => 0))), (q2, .inl (G.2.1, 10, .inl (fun _ => 0))), (q3, .inl (G.2.1, 10, .inl (fun _ => 0)))] := hD
  refine lv_aload_n hx hb dX6_init_28 rfl (lv_at hl 0 rfl) ?_
  refine lv_bipush (v := (120 : Int32)) hx hb dX6_init_29 (by decide) ?_
  refine nw_I (N := 120) C (hts _ mX6_init_2) hP hD hS (by decide) (by decide) (Nat.le_of_ble_eq_true rfl) (Nat.le_of_ble_eq_true rfl) (Nat.le_of_ble_eq_true rfl) dX6_init_31 (fun q4 H hP hD hS => ?_)
  have hP : va_P G.1 vwCl [(q0, .inr (6, [.ref q1, .ref q2, .ref q3, .null, .null, .null, .null, .null, .null, .int 0, .null, .int 0, .null, .null, .int 0, .null])), (q1, .inl (G.2.1, 10, .inl (fun _ => 0))), (q2, .inl (G.2.1, 10, .inl (fun _ => 0))), (q3, .inl (G.2.1, 10, .inl (fun _ => 0))), (q4, .inl (G.2.1, 120, .inl (fun _ => 0)))] H := hP
  have hD : va_D A [(q0, .inr (6, [.ref q1, .ref q2, .ref q3, .null, .null, .null, .null, .null, .null, .int 0, .null, .int 0, .null, .null, .int 0, .null])), (q1, .inl (G.2.1, 10, .inl (fun _ => 0))), (q2, .inl (G.2.1, 10, .inl (fun _ => 0))), (q3, .inl (G.2.1, 10, .inl (fun _ => 0))), (q4, .inl (G.2.1, 120, .inl (fun _ => 0)))] := hD
  refine W.widen (k := 4) (n := 150) (Nat.le_of_ble_eq_true rfl) (Nat.le_of_ble_eq_true rfl) ?_
  refine va_putF (D := G.1) (ci := 6) (v := .ref q4) (ty := .array .int) (C := RX6) (T := TX6) (N := 16) hx hb hts nX6_init_X6 tyX6 tyX6_ok nmX6 hown hG.1 hP hD hS 0 rfl rfl 3 (by decide) (hts _ mX6_init_6) (fun _ h9 => h9) rfl hin rfl (by decide +kernel) rfl rfl (Nat.le_of_ble_eq_true rfl) dX6_init_33 (fun H locs hP hD hS => ?_)
  have hP : va_P G.1 vwCl [(q0, .inr (6, [.ref q1, .ref q2, .ref q3, .ref q4, .null, .null, .null, .null, .null, .int 0, .null, .int 0, .null, .null, .int 0, .null])), (q1, .inl (G.2.1, 10, .inl (fun _ => 0))), (q2, .inl (G.2.1, 10, .inl (fun _ => 0))), (q3, .inl (G.2.1, 10, .inl (fun _ => 0))), (q4, .inl (G.2.1, 120, .inl (fun _ => 0)))] H := hP
  have hD : va_D A [(q0, .inr (6, [.ref q1, .ref q2, .ref q3, .ref q4, .null, .null, .null, .null, .null, .int 0, .null, .int 0, .null, .null, .int 0, .null])), (q1, .inl (G.2.1, 10, .inl (fun _ => 0))), (q2, .inl (G.2.1, 10, .inl (fun _ => 0))), (q3, .inl (G.2.1, 10, .inl (fun _ => 0))), (q4, .inl (G.2.1, 120, .inl (fun _ => 0)))] := hD
  refine lv_aload_n hx hb dX6_init_36 rfl (lv_at hl 0 rfl) ?_
  refine lv_sipush (v := (3024 : Int32)) hx hb dX6_init_37 (by decide) ?_
  refine nw_J (N := 3024) C (hts _ mX6_init_7) hP hD hS (by decide) (by decide) (Nat.le_of_ble_eq_true rfl) (Nat.le_of_ble_eq_true rfl) (Nat.le_of_ble_eq_true rfl) dX6_init_40 (fun q5 H hP hD hS => ?_)
  have hP : va_P G.1 vwCl [(q0, .inr (6, [.ref q1, .ref q2, .ref q3, .ref q4, .null, .null, .null, .null, .null, .int 0, .null, .int 0, .null, .null, .int 0, .null])), (q1, .inl (G.2.1, 10, .inl (fun _ => 0))), (q2, .inl (G.2.1, 10, .inl (fun _ => 0))), (q3, .inl (G.2.1, 10, .inl (fun _ => 0))), (q4, .inl (G.2.1, 120, .inl (fun _ => 0))), (q5, .inl (G.2.2.1, 3024, .inr (.inl (fun _ => 0))))] H := hP
  have hD : va_D A [(q0, .inr (6, [.ref q1, .ref q2, .ref q3, .ref q4, .null, .null, .null, .null, .null, .int 0, .null, .int 0, .null, .null, .int 0, .null])), (q1, .inl (G.2.1, 10, .inl (fun _ => 0))), (q2, .inl (G.2.1, 10, .inl (fun _ => 0))), (q3, .inl (G.2.1, 10, .inl (fun _ => 0))), (q4, .inl (G.2.1, 120, .inl (fun _ => 0))), (q5, .inl (G.2.2.1, 3024, .inr (.inl (fun _ => 0))))] := hD
  refine W.widen (k := 5) (n := 3174) (Nat.le_of_ble_eq_true rfl) (Nat.le_of_ble_eq_true rfl) ?_
  refine va_putF (D := G.1) (ci := 6) (v := .ref q5) (ty := .array .long) (C := RX6) (T := TX6) (N := 16) hx hb hts nX6_init_X6 tyX6 tyX6_ok nmX6 hown hG.1 hP hD hS 0 rfl rfl 4 (by decide) (hts _ mX6_init_8) (fun _ h9 => h9) rfl hin rfl (by decide +kernel) rfl rfl (Nat.le_of_ble_eq_true rfl) dX6_init_42 (fun H locs hP hD hS => ?_)
  have hP : va_P G.1 vwCl [(q0, .inr (6, [.ref q1, .ref q2, .ref q3, .ref q4, .ref q5, .null, .null, .null, .null, .int 0, .null, .int 0, .null, .null, .int 0, .null])), (q1, .inl (G.2.1, 10, .inl (fun _ => 0))), (q2, .inl (G.2.1, 10, .inl (fun _ => 0))), (q3, .inl (G.2.1, 10, .inl (fun _ => 0))), (q4, .inl (G.2.1, 120, .inl (fun _ => 0))), (q5, .inl (G.2.2.1, 3024, .inr (.inl (fun _ => 0))))] H := hP
  have hD : va_D A [(q0, .inr (6, [.ref q1, .ref q2, .ref q3, .ref q4, .ref q5, .null, .null, .null, .null, .int 0, .null, .int 0, .null, .null, .int 0, .null])), (q1, .inl (G.2.1, 10, .inl (fun _ => 0))), (q2, .inl (G.2.1, 10, .inl (fun _ => 0))), (q3, .inl (G.2.1, 10, .inl (fun _ => 0))), (q4, .inl (G.2.1, 120, .inl (fun _ => 0))), (q5, .inl (G.2.2.1, 3024, .inr (.inl (fun _ => 0))))] := hD
  refine lv_aload_n hx hb dX6_init_45 rfl (lv_at hl 0 rfl) ?_
  refine lv_sipush (v := (3024 : Int32)) hx hb dX6_init_46 (by decide) ?_
  refine nw_J (N := 3024) C (hts _ mX6_init_7) hP hD hS (by decide) (by decide) (Nat.le_of_ble_eq_true rfl) (Nat.le_of_ble_eq_true rfl) (Nat.le_of_ble_eq_true rfl) dX6_init_49 (fun q6 H hP hD hS => ?_)
  have hP : va_P G.1 vwCl [(q0, .inr (6, [.ref q1, .ref q2, .ref q3, .ref q4, .ref q5, .null, .null, .null, .null, .int 0, .null, .int 0, .null, .null, .int 0, .null])), (q1, .inl (G.2.1, 10, .inl (fun _ => 0))), (q2, .inl (G.2.1, 10, .inl (fun _ => 0))), (q3, .inl (G.2.1, 10, .inl (fun _ => 0))), (q4, .inl (G.2.1, 120, .inl (fun _ => 0))), (q5, .inl (G.2.2.1, 3024, .inr (.inl (fun _ => 0)))), (q6, .inl (G.2.2.1, 3024, .inr (.inl (fun _ => 0))))] H := hP
  have hD : va_D A [(q0, .inr (6, [.ref q1, .ref q2, .ref q3, .ref q4, .ref q5, .null, .null, .null, .null, .int 0, .null, .int 0, .null, .null, .int 0, .null])), (q1, .inl (G.2.1, 10, .inl (fun _ => 0))), (q2, .inl (G.2.1, 10, .inl (fun _ => 0))), (q3, .inl (G.2.1, 10, .inl (fun _ => 0))), (q4, .inl (G.2.1, 120, .inl (fun _ => 0))), (q5, .inl (G.2.2.1, 3024, .inr (.inl (fun _ => 0)))), (q6, .inl (G.2.2.1, 3024, .inr (.inl (fun _ => 0))))] := hD
  refine W.widen (k := 6) (n := 6198) (Nat.le_of_ble_eq_true rfl) (Nat.le_of_ble_eq_true rfl) ?_
  refine va_putF (D := G.1) (ci := 6) (v := .ref q6) (ty := .array .long) (C := RX6) (T := TX6) (N := 16) hx hb hts nX6_init_X6 tyX6 tyX6_ok nmX6 hown hG.1 hP hD hS 0 rfl rfl 5 (by decide) (hts _ mX6_init_9) (fun _ h9 => h9) rfl hin rfl (by decide +kernel) rfl rfl (Nat.le_of_ble_eq_true rfl) dX6_init_51 (fun H locs hP hD hS => ?_)
  have hP : va_P G.1 vwCl [(q0, .inr (6, [.ref q1, .ref q2, .ref q3, .ref q4, .ref q5, .ref q6, .null, .null, .null, .int 0, .null, .int 0, .null, .null, .int 0, .null])), (q1, .inl (G.2.1, 10, .inl (fun _ => 0))), (q2, .inl (G.2.1, 10, .inl (fun _ => 0))), (q3, .inl (G.2.1, 10, .inl (fun _ => 0))), (q4, .inl (G.2.1, 120, .inl (fun _ => 0))), (q5, .inl (G.2.2.1, 3024, .inr (.inl (fun _ => 0)))), (q6, .inl (G.2.2.1, 3024, .inr (.inl (fun _ => 0))))] H := hP
  have hD : va_D A [(q0, .inr (6, [.ref q1, .ref q2, .ref q3, .ref q4, .ref q5, .ref q6, .null, .null, .null, .int 0, .null, .int 0, .null, .null, .int 0, .null])), (q1, .inl (G.2.1, 10, .inl (fun _ => 0))), (q2, .inl (G.2.1, 10, .inl (fun _ => 0))), (q3, .inl (G.2.1, 10, .inl (fun _ => 0))), (q4, .inl (G.2.1, 120, .inl (fun _ => 0))), (q5, .inl (G.2.2.1, 3024, .inr (.inl (fun _ => 0)))), (q6, .inl (G.2.2.1, 3024, .inr (.inl (fun _ => 0))))] := hD
  refine lv_aload_n hx hb dX6_init_54 rfl (lv_at hl 0 rfl) ?_
  refine lv_bipush (v := (64 : Int32)) hx hb dX6_init_55 (by decide) ?_
  refine nw_I (N := 64) C (hts _ mX6_init_2) hP hD hS (by decide) (by decide) (Nat.le_of_ble_eq_true rfl) (Nat.le_of_ble_eq_true rfl) (Nat.le_of_ble_eq_true rfl) dX6_init_57 (fun q7 H hP hD hS => ?_)
  have hP : va_P G.1 vwCl [(q0, .inr (6, [.ref q1, .ref q2, .ref q3, .ref q4, .ref q5, .ref q6, .null, .null, .null, .int 0, .null, .int 0, .null, .null, .int 0, .null])), (q1, .inl (G.2.1, 10, .inl (fun _ => 0))), (q2, .inl (G.2.1, 10, .inl (fun _ => 0))), (q3, .inl (G.2.1, 10, .inl (fun _ => 0))), (q4, .inl (G.2.1, 120, .inl (fun _ => 0))), (q5, .inl (G.2.2.1, 3024, .inr (.inl (fun _ => 0)))), (q6, .inl (G.2.2.1, 3024, .inr (.inl (fun _ => 0)))), (q7, .inl (G.2.1, 64, .inl (fun _ => 0)))] H := hP
  have hD : va_D A [(q0, .inr (6, [.ref q1, .ref q2, .ref q3, .ref q4, .ref q5, .ref q6, .null, .null, .null, .int 0, .null, .int 0, .null, .null, .int 0, .null])), (q1, .inl (G.2.1, 10, .inl (fun _ => 0))), (q2, .inl (G.2.1, 10, .inl (fun _ => 0))), (q3, .inl (G.2.1, 10, .inl (fun _ => 0))), (q4, .inl (G.2.1, 120, .inl (fun _ => 0))), (q5, .inl (G.2.2.1, 3024, .inr (.inl (fun _ => 0)))), (q6, .inl (G.2.2.1, 3024, .inr (.inl (fun _ => 0)))), (q7, .inl (G.2.1, 64, .inl (fun _ => 0)))] := hD
  refine W.widen (k := 7) (n := 6262) (Nat.le_of_ble_eq_true rfl) (Nat.le_of_ble_eq_true rfl) ?_
  refine va_putF (D := G.1) (ci := 6) (v := .ref q7) (ty := .array .int) (C := RX6) (T := TX6) (N := 16) hx hb hts nX6_init_X6 tyX6 tyX6_ok nmX6 hown hG.1 hP hD hS 0 rfl rfl 6 (by decide) (hts _ mX6_init_10) (fun _ h9 => h9) rfl hin rfl (by decide +kernel) rfl rfl (Nat.le_of_ble_eq_true rfl) dX6_init_59 (fun H locs hP hD hS => ?_)
  have hP : va_P G.1 vwCl [(q0, .inr (6, [.ref q1, .ref q2, .ref q3, .ref q4, .ref q5, .ref q6, .ref q7, .null, .null, .int 0, .null, .int 0, .null, .null, .int 0, .null])), (q1, .inl (G.2.1, 10, .inl (fun _ => 0))), (q2, .inl (G.2.1, 10, .inl (fun _ => 0))), (q3, .inl (G.2.1, 10, .inl (fun _ => 0))), (q4, .inl (G.2.1, 120, .inl (fun _ => 0))), (q5, .inl (G.2.2.1, 3024, .inr (.inl (fun _ => 0)))), (q6, .inl (G.2.2.1, 3024, .inr (.inl (fun _ => 0)))), (q7, .inl (G.2.1, 64, .inl (fun _ => 0)))] H := hP
  have hD : va_D A [(q0, .inr (6, [.ref q1, .ref q2, .ref q3, .ref q4, .ref q5, .ref q6, .ref q7, .null, .null, .int 0, .null, .int 0, .null, .null, .int 0, .null])), (q1, .inl (G.2.1, 10, .inl (fun _ => 0))), (q2, .inl (G.2.1, 10, .inl (fun _ => 0))), (q3, .inl (G.2.1, 10, .inl (fun _ => 0))), (q4, .inl (G.2.1, 120, .inl (fun _ => 0))), (q5, .inl (G.2.2.1, 3024, .inr (.inl (fun _ => 0)))), (q6, .inl (G.2.2.1, 3024, .inr (.inl (fun _ => 0)))), (q7, .inl (G.2.1, 64, .inl (fun _ => 0)))] := hD
  refine lv_aload_n hx hb dX6_init_62 rfl (lv_at hl 0 rfl) ?_
  refine lv_sipush (v := (3024 : Int32)) hx hb dX6_init_63 (by decide) ?_
  refine nw_J (N := 3024) C (hts _ mX6_init_7) hP hD hS (by decide) (by decide) (Nat.le_of_ble_eq_true rfl) (Nat.le_of_ble_eq_true rfl) (Nat.le_of_ble_eq_true rfl) dX6_init_66 (fun q8 H hP hD hS => ?_)
  have hP : va_P G.1 vwCl [(q0, .inr (6, [.ref q1, .ref q2, .ref q3, .ref q4, .ref q5, .ref q6, .ref q7, .null, .null, .int 0, .null, .int 0, .null, .null, .int 0, .null])), (q1, .inl (G.2.1, 10, .inl (fun _ => 0))), (q2, .inl (G.2.1, 10, .inl (fun _ => 0))), (q3, .inl (G.2.1, 10, .inl (fun _ => 0))), (q4, .inl (G.2.1, 120, .inl (fun _ => 0))), (q5, .inl (G.2.2.1, 3024, .inr (.inl (fun _ => 0)))), (q6, .inl (G.2.2.1, 3024, .inr (.inl (fun _ => 0)))), (q7, .inl (G.2.1, 64, .inl (fun _ => 0))), (q8, .inl (G.2.2.1, 3024, .inr (.inl (fun _ => 0))))] H := hP
  have hD : va_D A [(q0, .inr (6, [.ref q1, .ref q2, .ref q3, .ref q4, .ref q5, .ref q6, .ref q7, .null, .null, .int 0, .null, .int 0, .null, .null, .int 0, .null])), (q1, .inl (G.2.1, 10, .inl (fun _ => 0))), (q2, .inl (G.2.1, 10, .inl (fun _ => 0))), (q3, .inl (G.2.1, 10, .inl (fun _ => 0))), (q4, .inl (G.2.1, 120, .inl (fun _ => 0))), (q5, .inl (G.2.2.1, 3024, .inr (.inl (fun _ => 0)))), (q6, .inl (G.2.2.1, 3024, .inr (.inl (fun _ => 0)))), (q7, .inl (G.2.1, 64, .inl (fun _ => 0))), (q8, .inl (G.2.2.1, 3024, .inr (.inl (fun _ => 0))))] := hD
  refine W.widen (k := 8) (n := 9286) (Nat.le_of_ble_eq_true rfl) (Nat.le_of_ble_eq_true rfl) ?_
  refine va_putF (D := G.1) (ci := 6) (v := .ref q8) (ty := .array .long) (C := RX6) (T := TX6) (N := 16) hx hb hts nX6_init_X6 tyX6 tyX6_ok nmX6 hown hG.1 hP hD hS 0 rfl rfl 7 (by decide) (hts _ mX6_init_11) (fun _ h9 => h9) rfl hin rfl (by decide +kernel) rfl rfl (Nat.le_of_ble_eq_true rfl) dX6_init_68 (fun H locs hP hD hS => ?_)
  have hP : va_P G.1 vwCl [(q0, .inr (6, [.ref q1, .ref q2, .ref q3, .ref q4, .ref q5, .ref q6, .ref q7, .ref q8, .null, .int 0, .null, .int 0, .null, .null, .int 0, .null])), (q1, .inl (G.2.1, 10, .inl (fun _ => 0))), (q2, .inl (G.2.1, 10, .inl (fun _ => 0))), (q3, .inl (G.2.1, 10, .inl (fun _ => 0))), (q4, .inl (G.2.1, 120, .inl (fun _ => 0))), (q5, .inl (G.2.2.1, 3024, .inr (.inl (fun _ => 0)))), (q6, .inl (G.2.2.1, 3024, .inr (.inl (fun _ => 0)))), (q7, .inl (G.2.1, 64, .inl (fun _ => 0))), (q8, .inl (G.2.2.1, 3024, .inr (.inl (fun _ => 0))))] H := hP
  have hD : va_D A [(q0, .inr (6, [.ref q1, .ref q2, .ref q3, .ref q4, .ref q5, .ref q6, .ref q7, .ref q8, .null, .int 0, .null, .int 0, .null, .null, .int 0, .null])), (q1, .inl (G.2.1, 10, .inl (fun _ => 0))), (q2, .inl (G.2.1, 10, .inl (fun _ => 0))), (q3, .inl (G.2.1, 10, .inl (fun _ => 0))), (q4, .inl (G.2.1, 120, .inl (fun _ => 0))), (q5, .inl (G.2.2.1, 3024, .inr (.inl (fun _ => 0)))), (q6, .inl (G.2.2.1, 3024, .inr (.inl (fun _ => 0)))), (q7, .inl (G.2.1, 64, .inl (fun _ => 0))), (q8, .inl (G.2.2.1, 3024, .inr (.inl (fun _ => 0))))] := hD
  refine lv_aload_n hx hb dX6_init_71 rfl (lv_at hl 0 rfl) ?_
  refine lv_sipush (v := (3024 : Int32)) hx hb dX6_init_72 (by decide) ?_
  refine nw_J (N := 3024) C (hts _ mX6_init_7) hP hD hS (by decide) (by decide) (Nat.le_of_ble_eq_true rfl) (Nat.le_of_ble_eq_true rfl) (Nat.le_of_ble_eq_true rfl) dX6_init_75 (fun q9 H hP hD hS => ?_)
  have hP : va_P G.1 vwCl [(q0, .inr (6, [.ref q1, .ref q2, .ref q3, .ref q4, .ref q5, .ref q6, .ref q7, .ref q8, .null, .int 0, .null, .int 0, .null, .null, .int 0, .null])), (q1, .inl (G.2.1, 10, .inl (fun _ => 0))), (q2, .inl (G.2.1, 10, .inl (fun _ => 0))), (q3, .inl (G.2.1, 10, .inl (fun _ => 0))), (q4, .inl (G.2.1, 120, .inl (fun _ => 0))), (q5, .inl (G.2.2.1, 3024, .inr (.inl (fun _ => 0)))), (q6, .inl (G.2.2.1, 3024, .inr (.inl (fun _ => 0)))), (q7, .inl (G.2.1, 64, .inl (fun _ => 0))), (q8, .inl (G.2.2.1, 3024, .inr (.inl (fun _ => 0)))), (q9, .inl (G.2.2.1, 3024, .inr (.inl (fun _ => 0))))] H := hP
  have hD : va_D A [(q0, .inr (6, [.ref q1, .ref q2, .ref q3, .ref q4, .ref q5, .ref q6, .ref q7, .ref q8, .null, .int 0, .null, .int 0, .null, .null, .int 0, .null])), (q1, .inl (G.2.1, 10, .inl (fun _ => 0))), (q2, .inl (G.2.1, 10, .inl (fun _ => 0))), (q3, .inl (G.2.1, 10, .inl (fun _ => 0))), (q4, .inl (G.2.1, 120, .inl (fun _ => 0))), (q5, .inl (G.2.2.1, 3024, .inr (.inl (fun _ => 0)))), (q6, .inl (G.2.2.1, 3024, .inr (.inl (fun _ => 0)))), (q7, .inl (G.2.1, 64, .inl (fun _ => 0))), (q8, .inl (G.2.2.1, 3024, .inr (.inl (fun _ => 0)))), (q9, .inl (G.2.2.1, 3024, .inr (.inl (fun _ => 0))))] := hD
  refine W.widen (k := 9) (n := 12310) (Nat.le_of_ble_eq_true rfl) (Nat.le_of_ble_eq_true rfl) ?_
  refine va_putF (D := G.1) (ci := 6) (v := .ref q9) (ty := .array .long) (C := RX6) (T := TX6) (N := 16) hx hb hts nX6_init_X6 tyX6 tyX6_ok nmX6 hown hG.1 hP hD hS 0 rfl rfl 8 (by decide) (hts _ mX6_init_12) (fun _ h9 => h9) rfl hin rfl (by decide +kernel) rfl rfl (Nat.le_of_ble_eq_true rfl) dX6_init_77 (fun H locs hP hD hS => ?_)
  have hP : va_P G.1 vwCl [(q0, .inr (6, [.ref q1, .ref q2, .ref q3, .ref q4, .ref q5, .ref q6, .ref q7, .ref q8, .ref q9, .int 0, .null, .int 0, .null, .null, .int 0, .null])), (q1, .inl (G.2.1, 10, .inl (fun _ => 0))), (q2, .inl (G.2.1, 10, .inl (fun _ => 0))), (q3, .inl (G.2.1, 10, .inl (fun _ => 0))), (q4, .inl (G.2.1, 120, .inl (fun _ => 0))), (q5, .inl (G.2.2.1, 3024, .inr (.inl (fun _ => 0)))), (q6, .inl (G.2.2.1, 3024, .inr (.inl (fun _ => 0)))), (q7, .inl (G.2.1, 64, .inl (fun _ => 0))), (q8, .inl (G.2.2.1, 3024, .inr (.inl (fun _ => 0)))), (q9, .inl (G.2.2.1, 3024, .inr (.inl (fun _ => 0))))] H := hP
  have hD : va_D A [(q0, .inr (6, [.ref q1, .ref q2, .ref q3, .ref q4, .ref q5, .ref q6, .ref q7, .ref q8, .ref q9, .int 0, .null, .int 0, .null, .null, .int 0, .null])), (q1, .inl (G.2.1, 10, .inl (fun _ => 0))), (q2, .inl (G.2.1, 10, .inl (fun _ => 0))), (q3, .inl (G.2.1, 10, .inl (fun _ => 0))), (q4, .inl (G.2.1, 120, .inl (fun _ => 0))), (q5, .inl (G.2.2.1, 3024, .inr (.inl (fun _ => 0)))), (q6, .inl (G.2.2.1, 3024, .inr (.inl (fun _ => 0)))), (q7, .inl (G.2.1, 64, .inl (fun _ => 0))), (q8, .inl (G.2.2.1, 3024, .inr (.inl (fun _ => 0)))), (q9, .inl (G.2.2.1, 3024, .inr (.inl (fun _ => 0))))] := hD
  refine lv_aload_n hx hb dX6_init_80 rfl (lv_at hl 0 rfl) ?_
  refine lv_ldc (v := (36465 : Int32)) hx hb hown (hts _ mX6_init_13) dX6_init_81 ?_
  refine nw_J (N := 36465) C (hts _ mX6_init_7) hP hD hS (by decide) (by decide) (Nat.le_of_ble_eq_true rfl) (Nat.le_of_ble_eq_true rfl) (Nat.le_of_ble_eq_true rfl) dX6_init_83 (fun q10 H hP hD hS => ?_)
  have hP : va_P G.1 vwCl [(q0, .inr (6, [.ref q1, .ref q2, .ref q3, .ref q4, .ref q5, .ref q6, .ref q7, .ref q8, .ref q9, .int 0, .null, .int 0, .null, .null, .int 0, .null])), (q1, .inl (G.2.1, 10, .inl (fun _ => 0))), (q2, .inl (G.2.1, 10, .inl (fun _ => 0))), (q3, .inl (G.2.1, 10, .inl (fun _ => 0))), (q4, .inl (G.2.1, 120, .inl (fun _ => 0))), (q5, .inl (G.2.2.1, 3024, .inr (.inl (fun _ => 0)))), (q6, .inl (G.2.2.1, 3024, .inr (.inl (fun _ => 0)))), (q7, .inl (G.2.1, 64, .inl (fun _ => 0))), (q8, .inl (G.2.2.1, 3024, .inr (.inl (fun _ => 0)))), (q9, .inl (G.2.2.1, 3024, .inr (.inl (fun _ => 0)))), (q10, .inl (G.2.2.1, 36465, .inr (.inl (fun _ => 0))))] H := hP
  have hD : va_D A [(q0, .inr (6, [.ref q1, .ref q2, .ref q3, .ref q4, .ref q5, .ref q6, .ref q7, .ref q8, .ref q9, .int 0, .null, .int 0, .null, .null, .int 0, .null])), (q1, .inl (G.2.1, 10, .inl (fun _ => 0))), (q2, .inl (G.2.1, 10, .inl (fun _ => 0))), (q3, .inl (G.2.1, 10, .inl (fun _ => 0))), (q4, .inl (G.2.1, 120, .inl (fun _ => 0))), (q5, .inl (G.2.2.1, 3024, .inr (.inl (fun _ => 0)))), (q6, .inl (G.2.2.1, 3024, .inr (.inl (fun _ => 0)))), (q7, .inl (G.2.1, 64, .inl (fun _ => 0))), (q8, .inl (G.2.2.1, 3024, .inr (.inl (fun _ => 0)))), (q9, .inl (G.2.2.1, 3024, .inr (.inl (fun _ => 0)))), (q10, .inl (G.2.2.1, 36465, .inr (.inl (fun _ => 0))))] := hD
  refine W.widen (k := 10) (n := 48775) (Nat.le_of_ble_eq_true rfl) (Nat.le_of_ble_eq_true rfl) ?_
  refine va_putF (D := G.1) (ci := 6) (v := .ref q10) (ty := .array .long) (C := RX6) (T := TX6) (N := 16) hx hb hts nX6_init_X6 tyX6 tyX6_ok nmX6 hown hG.1 hP hD hS 0 rfl rfl 10 (by decide) (hts _ mX6_init_14) (fun _ h9 => h9) rfl hin rfl (by decide +kernel) rfl rfl (Nat.le_of_ble_eq_true rfl) dX6_init_85 (fun H locs hP hD hS => ?_)
  have hP : va_P G.1 vwCl [(q0, .inr (6, [.ref q1, .ref q2, .ref q3, .ref q4, .ref q5, .ref q6, .ref q7, .ref q8, .ref q9, .int 0, .ref q10, .int 0, .null, .null, .int 0, .null])), (q1, .inl (G.2.1, 10, .inl (fun _ => 0))), (q2, .inl (G.2.1, 10, .inl (fun _ => 0))), (q3, .inl (G.2.1, 10, .inl (fun _ => 0))), (q4, .inl (G.2.1, 120, .inl (fun _ => 0))), (q5, .inl (G.2.2.1, 3024, .inr (.inl (fun _ => 0)))), (q6, .inl (G.2.2.1, 3024, .inr (.inl (fun _ => 0)))), (q7, .inl (G.2.1, 64, .inl (fun _ => 0))), (q8, .inl (G.2.2.1, 3024, .inr (.inl (fun _ => 0)))), (q9, .inl (G.2.2.1, 3024, .inr (.inl (fun _ => 0)))), (q10, .inl (G.2.2.1, 36465, .inr (.inl (fun _ => 0))))] H := hP
  have hD : va_D A [(q0, .inr (6, [.ref q1, .ref q2, .ref q3, .ref q4, .ref q5, .ref q6, .ref q7, .ref q8, .ref q9, .int 0, .ref q10, .int 0, .null, .null, .int 0, .null])), (q1, .inl (G.2.1, 10, .inl (fun _ => 0))), (q2, .inl (G.2.1, 10, .inl (fun _ => 0))), (q3, .inl (G.2.1, 10, .inl (fun _ => 0))), (q4, .inl (G.2.1, 120, .inl (fun _ => 0))), (q5, .inl (G.2.2.1, 3024, .inr (.inl (fun _ => 0)))), (q6, .inl (G.2.2.1, 3024, .inr (.inl (fun _ => 0)))), (q7, .inl (G.2.1, 64, .inl (fun _ => 0))), (q8, .inl (G.2.2.1, 3024, .inr (.inl (fun _ => 0)))), (q9, .inl (G.2.2.1, 3024, .inr (.inl (fun _ => 0)))), (q10, .inl (G.2.2.1, 36465, .inr (.inl (fun _ => 0))))] := hD
  refine lv_aload_n hx hb dX6_init_88 rfl (lv_at hl 0 rfl) ?_
  refine lv_sipush (v := (3024 : Int32)) hx hb dX6_init_89 (by decide) ?_
  refine nw_I (N := 3024) C (hts _ mX6_init_2) hP hD hS (by decide) (by decide) (Nat.le_of_ble_eq_true rfl) (Nat.le_of_ble_eq_true rfl) (Nat.le_of_ble_eq_true rfl) dX6_init_92 (fun q11 H hP hD hS => ?_)
  have hP : va_P G.1 vwCl [(q0, .inr (6, [.ref q1, .ref q2, .ref q3, .ref q4, .ref q5, .ref q6, .ref q7, .ref q8, .ref q9, .int 0, .ref q10, .int 0, .null, .null, .int 0, .null])), (q1, .inl (G.2.1, 10, .inl (fun _ => 0))), (q2, .inl (G.2.1, 10, .inl (fun _ => 0))), (q3, .inl (G.2.1, 10, .inl (fun _ => 0))), (q4, .inl (G.2.1, 120, .inl (fun _ => 0))), (q5, .inl (G.2.2.1, 3024, .inr (.inl (fun _ => 0)))), (q6, .inl (G.2.2.1, 3024, .inr (.inl (fun _ => 0)))), (q7, .inl (G.2.1, 64, .inl (fun _ => 0))), (q8, .inl (G.2.2.1, 3024, .inr (.inl (fun _ => 0)))), (q9, .inl (G.2.2.1, 3024, .inr (.inl (fun _ => 0)))), (q10, .inl (G.2.2.1, 36465, .inr (.inl (fun _ => 0)))), (q11, .inl (G.2.1, 3024, .inl (fun _ => 0)))] H := hP
  have hD : va_D A [(q0, .inr (6, [.ref q1, .ref q2, .ref q3, .ref q4, .ref q5, .ref q6, .ref q7, .ref q8, .ref q9, .int 0, .ref q10, .int 0, .null, .null, .int 0, .null])), (q1, .inl (G.2.1, 10, .inl (fun _ => 0))), (q2, .inl (G.2.1, 10, .inl (fun _ => 0))), (q3, .inl (G.2.1, 10, .inl (fun _ => 0))), (q4, .inl (G.2.1, 120, .inl (fun _ => 0))), (q5, .inl (G.2.2.1, 3024, .inr (.inl (fun _ => 0)))), (q6, .inl (G.2.2.1, 3024, .inr (.inl (fun _ => 0)))), (q7, .inl (G.2.1, 64, .inl (fun _ => 0))), (q8, .inl (G.2.2.1, 3024, .inr (.inl (fun _ => 0)))), (q9, .inl (G.2.2.1, 3024, .inr (.inl (fun _ => 0)))), (q10, .inl (G.2.2.1, 36465, .inr (.inl (fun _ => 0)))), (q11, .inl (G.2.1, 3024, .inl (fun _ => 0)))] := hD
  refine W.widen (k := 11) (n := 51799) (Nat.le_of_ble_eq_true rfl) (Nat.le_of_ble_eq_true rfl) ?_
  refine va_putF (D := G.1) (ci := 6) (v := .ref q11) (ty := .array .int) (C := RX6) (T := TX6) (N := 16) hx hb hts nX6_init_X6 tyX6 tyX6_ok nmX6 hown hG.1 hP hD hS 0 rfl rfl 12 (by decide) (hts _ mX6_init_15) (fun _ h9 => h9) rfl hin rfl (by decide +kernel) rfl rfl (Nat.le_of_ble_eq_true rfl) dX6_init_94 (fun H locs hP hD hS => ?_)
  have hP : va_P G.1 vwCl [(q0, .inr (6, [.ref q1, .ref q2, .ref q3, .ref q4, .ref q5, .ref q6, .ref q7, .ref q8, .ref q9, .int 0, .ref q10, .int 0, .ref q11, .null, .int 0, .null])), (q1, .inl (G.2.1, 10, .inl (fun _ => 0))), (q2, .inl (G.2.1, 10, .inl (fun _ => 0))), (q3, .inl (G.2.1, 10, .inl (fun _ => 0))), (q4, .inl (G.2.1, 120, .inl (fun _ => 0))), (q5, .inl (G.2.2.1, 3024, .inr (.inl (fun _ => 0)))), (q6, .inl (G.2.2.1, 3024, .inr (.inl (fun _ => 0)))), (q7, .inl (G.2.1, 64, .inl (fun _ => 0))), (q8, .inl (G.2.2.1, 3024, .inr (.inl (fun _ => 0)))), (q9, .inl (G.2.2.1, 3024, .inr (.inl (fun _ => 0)))), (q10, .inl (G.2.2.1, 36465, .inr (.inl (fun _ => 0)))), (q11, .inl (G.2.1, 3024, .inl (fun _ => 0)))] H := hP
  have hD : va_D A [(q0, .inr (6, [.ref q1, .ref q2, .ref q3, .ref q4, .ref q5, .ref q6, .ref q7, .ref q8, .ref q9, .int 0, .ref q10, .int 0, .ref q11, .null, .int 0, .null])), (q1, .inl (G.2.1, 10, .inl (fun _ => 0))), (q2, .inl (G.2.1, 10, .inl (fun _ => 0))), (q3, .inl (G.2.1, 10, .inl (fun _ => 0))), (q4, .inl (G.2.1, 120, .inl (fun _ => 0))), (q5, .inl (G.2.2.1, 3024, .inr (.inl (fun _ => 0)))), (q6, .inl (G.2.2.1, 3024, .inr (.inl (fun _ => 0)))), (q7, .inl (G.2.1, 64, .inl (fun _ => 0))), (q8, .inl (G.2.2.1, 3024, .inr (.inl (fun _ => 0)))), (q9, .inl (G.2.2.1, 3024, .inr (.inl (fun _ => 0)))), (q10, .inl (G.2.2.1, 36465, .inr (.inl (fun _ => 0)))), (q11, .inl (G.2.1, 3024, .inl (fun _ => 0)))] := hD
  refine lv_aload_n hx hb dX6_init_97 rfl (lv_at hl 0 rfl) ?_
  refine lv_sipush (v := (3024 : Int32)) hx hb dX6_init_98 (by decide) ?_
  refine nw_J (N := 3024) C (hts _ mX6_init_7) hP hD hS (by decide) (by decide) (Nat.le_of_ble_eq_true rfl) (Nat.le_of_ble_eq_true rfl) (Nat.le_of_ble_eq_true rfl) dX6_init_101 (fun q12 H hP hD hS => ?_)
  have hP : va_P G.1 vwCl [(q0, .inr (6, [.ref q1, .ref q2, .ref q3, .ref q4, .ref q5, .ref q6, .ref q7, .ref q8, .ref q9, .int 0, .ref q10, .int 0, .ref q11, .null, .int 0, .null])), (q1, .inl (G.2.1, 10, .inl (fun _ => 0))), (q2, .inl (G.2.1, 10, .inl (fun _ => 0))), (q3, .inl (G.2.1, 10, .inl (fun _ => 0))), (q4, .inl (G.2.1, 120, .inl (fun _ => 0))), (q5, .inl (G.2.2.1, 3024, .inr (.inl (fun _ => 0)))), (q6, .inl (G.2.2.1, 3024, .inr (.inl (fun _ => 0)))), (q7, .inl (G.2.1, 64, .inl (fun _ => 0))), (q8, .inl (G.2.2.1, 3024, .inr (.inl (fun _ => 0)))), (q9, .inl (G.2.2.1, 3024, .inr (.inl (fun _ => 0)))), (q10, .inl (G.2.2.1, 36465, .inr (.inl (fun _ => 0)))), (q11, .inl (G.2.1, 3024, .inl (fun _ => 0))), (q12, .inl (G.2.2.1, 3024, .inr (.inl (fun _ => 0))))] H := hP
  have hD : va_D A [(q0, .inr (6, [.ref q1, .ref q2, .ref q3, .ref q4, .ref q5, .ref q6, .ref q7, .ref q8, .ref q9, .int 0, .ref q10, .int 0, .ref q11, .null, .int 0, .null])), (q1, .inl (G.2.1, 10, .inl (fun _ => 0))), (q2, .inl (G.2.1, 10, .inl (fun _ => 0))), (q3, .inl (G.2.1, 10, .inl (fun _ => 0))), (q4, .inl (G.2.1, 120, .inl (fun _ => 0))), (q5, .inl (G.2.2.1, 3024, .inr (.inl (fun _ => 0)))), (q6, .inl (G.2.2.1, 3024, .inr (.inl (fun _ => 0)))), (q7, .inl (G.2.1, 64, .inl (fun _ => 0))), (q8, .inl (G.2.2.1, 3024, .inr (.inl (fun _ => 0)))), (q9, .inl (G.2.2.1, 3024, .inr (.inl (fun _ => 0)))), (q10, .inl (G.2.2.1, 36465, .inr (.inl (fun _ => 0)))), (q11, .inl (G.2.1, 3024, .inl (fun _ => 0))), (q12, .inl (G.2.2.1, 3024, .inr (.inl (fun _ => 0))))] := hD
  refine W.widen (k := 12) (n := 54823) (Nat.le_of_ble_eq_true rfl) (Nat.le_of_ble_eq_true rfl) ?_
  refine va_putF (D := G.1) (ci := 6) (v := .ref q12) (ty := .array .long) (C := RX6) (T := TX6) (N := 16) hx hb hts nX6_init_X6 tyX6 tyX6_ok nmX6 hown hG.1 hP hD hS 0 rfl rfl 13 (by decide) (hts _ mX6_init_16) (fun _ h9 => h9) rfl hin rfl (by decide +kernel) rfl rfl (Nat.le_of_ble_eq_true rfl) dX6_init_103 (fun H locs hP hD hS => ?_)
  have hP : va_P G.1 vwCl [(q0, .inr (6, [.ref q1, .ref q2, .ref q3, .ref q4, .ref q5, .ref q6, .ref q7, .ref q8, .ref q9, .int 0, .ref q10, .int 0, .ref q11, .ref q12, .int 0, .null])), (q1, .inl (G.2.1, 10, .inl (fun _ => 0))), (q2, .inl (G.2.1, 10, .inl (fun _ => 0))), (q3, .inl (G.2.1, 10, .inl (fun _ => 0))), (q4, .inl (G.2.1, 120, .inl (fun _ => 0))), (q5, .inl (G.2.2.1, 3024, .inr (.inl (fun _ => 0)))), (q6, .inl (G.2.2.1, 3024, .inr (.inl (fun _ => 0)))), (q7, .inl (G.2.1, 64, .inl (fun _ => 0))), (q8, .inl (G.2.2.1, 3024, .inr (.inl (fun _ => 0)))), (q9, .inl (G.2.2.1, 3024, .inr (.inl (fun _ => 0)))), (q10, .inl (G.2.2.1, 36465, .inr (.inl (fun _ => 0)))), (q11, .inl (G.2.1, 3024, .inl (fun _ => 0))), (q12, .inl (G.2.2.1, 3024, .inr (.inl (fun _ => 0))))] H := hP
  have hD : va_D A [(q0, .inr (6, [.ref q1, .ref q2, .ref q3, .ref q4, .ref q5, .ref q6, .ref q7, .ref q8, .ref q9, .int 0, .ref q10, .int 0, .ref q11, .ref q12, .int 0, .null])), (q1, .inl (G.2.1, 10, .inl (fun _ => 0))), (q2, .inl (G.2.1, 10, .inl (fun _ => 0))), (q3, .inl (G.2.1, 10, .inl (fun _ => 0))), (q4, .inl (G.2.1, 120, .inl (fun _ => 0))), (q5, .inl (G.2.2.1, 3024, .inr (.inl (fun _ => 0)))), (q6, .inl (G.2.2.1, 3024, .inr (.inl (fun _ => 0)))), (q7, .inl (G.2.1, 64, .inl (fun _ => 0))), (q8, .inl (G.2.2.1, 3024, .inr (.inl (fun _ => 0)))), (q9, .inl (G.2.2.1, 3024, .inr (.inl (fun _ => 0)))), (q10, .inl (G.2.2.1, 36465, .inr (.inl (fun _ => 0)))), (q11, .inl (G.2.1, 3024, .inl (fun _ => 0))), (q12, .inl (G.2.2.1, 3024, .inr (.inl (fun _ => 0))))] := hD
  refine lv_aload_n hx hb dX6_init_106 rfl (lv_at hl 0 rfl) ?_
  refine lv_bipush (v := (64 : Int32)) hx hb dX6_init_107 (by decide) ?_
  refine nw_I (N := 64) C (hts _ mX6_init_2) hP hD hS (by decide) (by decide) (Nat.le_of_ble_eq_true rfl) (Nat.le_of_ble_eq_true rfl) (Nat.le_of_ble_eq_true rfl) dX6_init_109 (fun q13 H hP hD hS => ?_)
  have hP : va_P G.1 vwCl [(q0, .inr (6, [.ref q1, .ref q2, .ref q3, .ref q4, .ref q5, .ref q6, .ref q7, .ref q8, .ref q9, .int 0, .ref q10, .int 0, .ref q11, .ref q12, .int 0, .null])), (q1, .inl (G.2.1, 10, .inl (fun _ => 0))), (q2, .inl (G.2.1, 10, .inl (fun _ => 0))), (q3, .inl (G.2.1, 10, .inl (fun _ => 0))), (q4, .inl (G.2.1, 120, .inl (fun _ => 0))), (q5, .inl (G.2.2.1, 3024, .inr (.inl (fun _ => 0)))), (q6, .inl (G.2.2.1, 3024, .inr (.inl (fun _ => 0)))), (q7, .inl (G.2.1, 64, .inl (fun _ => 0))), (q8, .inl (G.2.2.1, 3024, .inr (.inl (fun _ => 0)))), (q9, .inl (G.2.2.1, 3024, .inr (.inl (fun _ => 0)))), (q10, .inl (G.2.2.1, 36465, .inr (.inl (fun _ => 0)))), (q11, .inl (G.2.1, 3024, .inl (fun _ => 0))), (q12, .inl (G.2.2.1, 3024, .inr (.inl (fun _ => 0)))), (q13, .inl (G.2.1, 64, .inl (fun _ => 0)))] H := hP
  have hD : va_D A [(q0, .inr (6, [.ref q1, .ref q2, .ref q3, .ref q4, .ref q5, .ref q6, .ref q7, .ref q8, .ref q9, .int 0, .ref q10, .int 0, .ref q11, .ref q12, .int 0, .null])), (q1, .inl (G.2.1, 10, .inl (fun _ => 0))), (q2, .inl (G.2.1, 10, .inl (fun _ => 0))), (q3, .inl (G.2.1, 10, .inl (fun _ => 0))), (q4, .inl (G.2.1, 120, .inl (fun _ => 0))), (q5, .inl (G.2.2.1, 3024, .inr (.inl (fun _ => 0)))), (q6, .inl (G.2.2.1, 3024, .inr (.inl (fun _ => 0)))), (q7, .inl (G.2.1, 64, .inl (fun _ => 0))), (q8, .inl (G.2.2.1, 3024, .inr (.inl (fun _ => 0)))), (q9, .inl (G.2.2.1, 3024, .inr (.inl (fun _ => 0)))), (q10, .inl (G.2.2.1, 36465, .inr (.inl (fun _ => 0)))), (q11, .inl (G.2.1, 3024, .inl (fun _ => 0))), (q12, .inl (G.2.2.1, 3024, .inr (.inl (fun _ => 0)))), (q13, .inl (G.2.1, 64, .inl (fun _ => 0)))] := hD
  refine W.widen (k := 13) (n := 54887) (Nat.le_of_ble_eq_true rfl) (Nat.le_of_ble_eq_true rfl) ?_
  refine va_putF (D := G.1) (ci := 6) (v := .ref q13) (ty := .array .int) (C := RX6) (T := TX6) (N := 16) hx hb hts nX6_init_X6 tyX6 tyX6_ok nmX6 hown hG.1 hP hD hS 0 rfl rfl 15 (by decide) (hts _ mX6_init_17) (fun _ h9 => h9) rfl hin rfl (by decide +kernel) rfl rfl (Nat.le_of_ble_eq_true rfl) dX6_init_111 (fun H locs hP hD hS => ?_)
  have hP : va_P G.1 vwCl [(q0, .inr (6, [.ref q1, .ref q2, .ref q3, .ref q4, .ref q5, .ref q6, .ref q7, .ref q8, .ref q9, .int 0, .ref q10, .int 0, .ref q11, .ref q12, .int 0, .ref q13])), (q1, .inl (G.2.1, 10, .inl (fun _ => 0))), (q2, .inl (G.2.1, 10, .inl (fun _ => 0))), (q3, .inl (G.2.1, 10, .inl (fun _ => 0))), (q4, .inl (G.2.1, 120, .inl (fun _ => 0))), (q5, .inl (G.2.2.1, 3024, .inr (.inl (fun _ => 0)))), (q6, .inl (G.2.2.1, 3024, .inr (.inl (fun _ => 0)))), (q7, .inl (G.2.1, 64, .inl (fun _ => 0))), (q8, .inl (G.2.2.1, 3024, .inr (.inl (fun _ => 0)))), (q9, .inl (G.2.2.1, 3024, .inr (.inl (fun _ => 0)))), (q10, .inl (G.2.2.1, 36465, .inr (.inl (fun _ => 0)))), (q11, .inl (G.2.1, 3024, .inl (fun _ => 0))), (q12, .inl (G.2.2.1, 3024, .inr (.inl (fun _ => 0)))), (q13, .inl (G.2.1, 64, .inl (fun _ => 0)))] H := hP
  have hD : va_D A [(q0, .inr (6, [.ref q1, .ref q2, .ref q3, .ref q4, .ref q5, .ref q6, .ref q7, .ref q8, .ref q9, .int 0, .ref q10, .int 0, .ref q11, .ref q12, .int 0, .ref q13])), (q1, .inl (G.2.1, 10, .inl (fun _ => 0))), (q2, .inl (G.2.1, 10, .inl (fun _ => 0))), (q3, .inl (G.2.1, 10, .inl (fun _ => 0))), (q4, .inl (G.2.1, 120, .inl (fun _ => 0))), (q5, .inl (G.2.2.1, 3024, .inr (.inl (fun _ => 0)))), (q6, .inl (G.2.2.1, 3024, .inr (.inl (fun _ => 0)))), (q7, .inl (G.2.1, 64, .inl (fun _ => 0))), (q8, .inl (G.2.2.1, 3024, .inr (.inl (fun _ => 0)))), (q9, .inl (G.2.2.1, 3024, .inr (.inl (fun _ => 0)))), (q10, .inl (G.2.2.1, 36465, .inr (.inl (fun _ => 0)))), (q11, .inl (G.2.1, 3024, .inl (fun _ => 0))), (q12, .inl (G.2.2.1, 3024, .inr (.inl (fun _ => 0)))), (q13, .inl (G.2.1, 64, .inl (fun _ => 0)))] := hD
  have hP := hP.sub (ws' := [(q0, .inr (6, [.ref q1, .ref q2, .ref q3, .ref q4, .ref q5, .ref q6, .ref q7, .ref q8, .ref q9, .int 0, .ref q10, .int 0, .ref q11, .ref q12, .int 0, .ref q13])), (q1, .inl (G.2.1, 10, .inl (fun _ => 0))), (q2, .inl (G.2.1, 10, .inl (fun _ => 0))), (q3, .inl (G.2.1, 10, .inl (fun _ => 0))), (q4, .inl (G.2.1, 120, .inl (fun _ => 0))), (q5, .inl (G.2.2.1, 3024, .inr (.inl (fun _ => 0)))), (q6, .inl (G.2.2.1, 3024, .inr (.inl (fun _ => 0)))), (q7, .inl (G.2.1, 64, .inl (fun _ => 0))), (q8, .inl (G.2.2.1, 3024, .inr (.inl (fun _ => 0)))), (q9, .inl (G.2.2.1, 3024, .inr (.inl (fun _ => 0)))), (q10, .inl (G.2.2.1, 36465, .inr (.inl (fun _ => 0)))), (q11, .inl (G.2.1, 3024, .inl (fun _ => 0))), (q12, .inl (G.2.2.1, 3024, .inr (.inl (fun _ => 0)))), (q13, .inl (G.2.1, 64, .inl (fun _ => 0)))]) [0, 1, 2, 3, 4, 5, 6, 7, 8, 9, 10, 11, 12, 13] rfl
  have hD := hD.sub (ws' := [(q0, .inr (6, [.ref q1, .ref q2, .ref q3, .ref q4, .ref q5, .ref q6, .ref q7, .ref q8, .ref q9, .int 0, .ref q10, .int 0, .ref q11, .ref q12, .int 0, .ref q13])), (q1, .inl (G.2.1, 10, .inl (fun _ => 0))), (q2, .inl (G.2.1, 10, .inl (fun _ => 0))), (q3, .inl (G.2.1, 10, .inl (fun _ => 0))), (q4, .inl (G.2.1, 120, .inl (fun _ => 0))), (q5, .inl (G.2.2.1, 3024, .inr (.inl (fun _ => 0)))), (q6, .inl (G.2.2.1, 3024, .inr (.inl (fun _ => 0)))), (q7, .inl (G.2.1, 64, .inl (fun _ => 0))), (q8, .inl (G.2.2.1, 3024, .inr (.inl (fun _ => 0)))), (q9, .inl (G.2.2.1, 3024, .inr (.inl (fun _ => 0)))), (q10, .inl (G.2.2.1, 36465, .inr (.inl (fun _ => 0)))), (q11, .inl (G.2.1, 3024, .inl (fun _ => 0))), (q12, .inl (G.2.2.1, 3024, .inr (.inl (fun _ => 0)))), (q13, .inl (G.2.1, 64, .inl (fun _ => 0)))]) [0, 1, 2, 3, 4, 5, 6, 7, 8, 9, 10, 11, 12, 13] rfl rfl
  exact rt_c C (Nat.le_of_ble_eq_true rfl) (Nat.le_of_ble_eq_true rfl) ⟨q1, q2, q3, q4, q5, q6, q7, q8, q9, q10, q11, q12, q13, rfl⟩ hP hD hS dX6_init_114
