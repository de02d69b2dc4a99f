theorem arr_start {args : Array Value} {s : State} {ty : FieldType} (harr : (Cond.arrayClass ty).before args s = true) (hty : ∀ C, ty ≠ .object C) : ∃ cA : ClassId, ArrOfT s cA ty ∧ va_RA s cA ty := by
  obtain ⟨cA, kA, comp, hfind, hk, hkind⟩ := Cond.arrayClass_spec harr
  refine ⟨cA, fun n z => ⟨fun k h => (by cases h), kA, hk, comp, hkind⟩, ?_⟩
  cases ty <;> first | exact hfind | exact absurd rfl (hty _)
set_option maxRecDepth 20000 in
theorem tb_STRIDE {args : Array Value} {s : State} (hts : ∀ w ∈ lw_tbl, w.before args s = true) (hs : ∀ c ∈ flatC (Jvm.Cond.and given_1 narrow_1), c.before args s = true) : ∃ t : Nat, gxT "STRIDE" t 5 tSTRIDE (fun q => s.heap.size ≤ q) s s.heap := by
  have hA : ∀ a : Nat, a < s.heap.size → ¬ (fun q : Nat => s.heap.size ≤ q) a := fun a h => Nat.not_le.mpr h
  obtain ⟨t, h1, h2⟩ := va_Tof (tm := (.static "SchubertDesk" "STRIDE" "[I")) (ty := .int) (N := 5) (f := fun j => .int (tSTRIDE j)) (A := fun q : Nat => s.heap.size ≤ q) (by decide) (hs (Cond.arrayOf (.static "SchubertDesk" "STRIDE" "[I") .int) (by decide +kernel)) (va_eqt (hs (Cond.eq (.length (.static "SchubertDesk" "STRIDE" "[I")) (.int 5)) (by decide +kernel))) (fun j hj => by
    rcases (show j = 0 ∨ j = 1 ∨ j = 2 ∨ j = 3 ∨ j = 4 by omega) with rfl | rfl | rfl | rfl | rfl
    · exact va_eqt (hs (Cond.eq (.elem (.static "SchubertDesk" "STRIDE" "[I") (.int 0)) (.int 0)) (by decide +kernel))
    · exact va_eqt (hs (Cond.eq (.elem (.static "SchubertDesk" "STRIDE" "[I") (.int 1)) (.int 1)) (by decide +kernel))
    · exact va_eqt (hs (Cond.eq (.elem (.static "SchubertDesk" "STRIDE" "[I") (.int 2)) (.int 9)) (by decide +kernel))
    · exact va_eqt (hs (Cond.eq (.elem (.static "SchubertDesk" "STRIDE" "[I") (.int 3)) (.int 72)) (by decide +kernel))
    · exact va_eqt (hs (Cond.eq (.elem (.static "SchubertDesk" "STRIDE" "[I") (.int 4)) (.int 504)) (by decide +kernel))) hA
  exact ⟨t, va_Zref (hts (Cond.laysStatic "SchubertDesk" "STRIDE" "[I") (by decide +kernel)) (hts (Cond.initialized "SchubertDesk") (by decide +kernel)) h1 hA, h2⟩
set_option maxRecDepth 20000 in
theorem tb_MOST {args : Array Value} {s : State} (hts : ∀ w ∈ lw_tbl, w.before args s = true) (hs : ∀ c ∈ flatC (Jvm.Cond.and given_1 narrow_1), c.before args s = true) : ∃ t : Nat, gxT "MOST" t 5 tMOST (fun q => s.heap.size ≤ q) s s.heap := by
  have hA : ∀ a : Nat, a < s.heap.size → ¬ (fun q : Nat => s.heap.size ≤ q) a := fun a h => Nat.not_le.mpr h
  obtain ⟨t, h1, h2⟩ := va_Tof (tm := (.static "SchubertDesk" "MOST" "[I")) (ty := .int) (N := 5) (f := fun j => .int (tMOST j)) (A := fun q : Nat => s.heap.size ≤ q) (by decide) (hs (Cond.arrayOf (.static "SchubertDesk" "MOST" "[I") .int) (by decide +kernel)) (va_eqt (hs (Cond.eq (.length (.static "SchubertDesk" "MOST" "[I")) (.int 5)) (by decide +kernel))) (fun j hj => by
    rcases (show j = 0 ∨ j = 1 ∨ j = 2 ∨ j = 3 ∨ j = 4 by omega) with rfl | rfl | rfl | rfl | rfl
    · exact va_eqt (hs (Cond.eq (.elem (.static "SchubertDesk" "MOST" "[I") (.int 0)) (.int 0)) (by decide +kernel))
    · exact va_eqt (hs (Cond.eq (.elem (.static "SchubertDesk" "MOST" "[I") (.int 1)) (.int 8)) (by decide +kernel))
    · exact va_eqt (hs (Cond.eq (.elem (.static "SchubertDesk" "MOST" "[I") (.int 2)) (.int 7)) (by decide +kernel))
    · exact va_eqt (hs (Cond.eq (.elem (.static "SchubertDesk" "MOST" "[I") (.int 3)) (.int 6)) (by decide +kernel))
    · exact va_eqt (hs (Cond.eq (.elem (.static "SchubertDesk" "MOST" "[I") (.int 4)) (.int 5)) (by decide +kernel))) hA
  exact ⟨t, va_Zref (hts (Cond.laysStatic "SchubertDesk" "MOST" "[I") (by decide +kernel)) (hts (Cond.initialized "SchubertDesk") (by decide +kernel)) h1 hA, h2⟩
set_option maxRecDepth 20000 in
theorem tb_FIRST_BIT {args : Array Value} {s : State} (hts : ∀ w ∈ lw_tbl, w.before args s = true) (hs : ∀ c ∈ flatC (Jvm.Cond.and given_1 narrow_1), c.before args s = true) : ∃ t : Nat, gxT "FIRST_BIT" t 5 tFIRST_BIT (fun q => s.heap.size ≤ q) s s.heap := by
  have hA : ∀ a : Nat, a < s.heap.size → ¬ (fun q : Nat => s.heap.size ≤ q) a := fun a h => Nat.not_le.mpr h
  obtain ⟨t, h1, h2⟩ := va_Tof (tm := (.static "SchubertDesk" "FIRST_BIT" "[I")) (ty := .int) (N := 5) (f := fun j => .int (tFIRST_BIT j)) (A := fun q : Nat => s.heap.size ≤ q) (by decide) (hs (Cond.arrayOf (.static "SchubertDesk" "FIRST_BIT" "[I") .int) (by decide +kernel)) (va_eqt (hs (Cond.eq (.length (.static "SchubertDesk" "FIRST_BIT" "[I")) (.int 5)) (by decide +kernel))) (fun j hj => by
    rcases (show j = 0 ∨ j = 1 ∨ j = 2 ∨ j = 3 ∨ j = 4 by omega) with rfl | rfl | rfl | rfl | rfl
    · exact va_eqt (hs (Cond.eq (.elem (.static "SchubertDesk" "FIRST_BIT" "[I") (.int 0)) (.int 0)) (by decide +kernel))
    · exact va_eqt (hs (Cond.eq (.elem (.static "SchubertDesk" "FIRST_BIT" "[I") (.int 1)) (.int 0)) (by decide +kernel))
    · exact va_eqt (hs (Cond.eq (.elem (.static "SchubertDesk" "FIRST_BIT" "[I") (.int 2)) (.int 4)) (by decide +kernel))
    · exact va_eqt (hs (Cond.eq (.elem (.static "SchubertDesk" "FIRST_BIT" "[I") (.int 3)) (.int 7)) (by decide +kernel))
    · exact va_eqt (hs (Cond.eq (.elem (.static "SchubertDesk" "FIRST_BIT" "[I") (.int 4)) (.int 9)) (by decide +kernel))) hA
  exact ⟨t, va_Zref (hts (Cond.laysStatic "SchubertDesk" "FIRST_BIT" "[I") (by decide +kernel)) (hts (Cond.initialized "SchubertDesk") (by decide +kernel)) h1 hA, h2⟩
set_option maxRecDepth 20000 in
theorem tb_READ_BIT {args : Array Value} {s : State} (hts : ∀ w ∈ lw_tbl, w.before args s = true) (hs : ∀ c ∈ flatC (Jvm.Cond.and given_1 narrow_1), c.before args s = true) : ∃ t : Nat, gxT "READ_BIT" t 10 tREAD_BIT (fun q => s.heap.size ≤ q) s s.heap := by
  have hA : ∀ a : Nat, a < s.heap.size → ¬ (fun q : Nat => s.heap.size ≤ q) a := fun a h => Nat.not_le.mpr h
  obtain ⟨t, h1, h2⟩ := va_Tof (tm := (.static "SchubertDesk" "READ_BIT" "[I")) (ty := .int) (N := 10) (f := fun j => .int (tREAD_BIT j)) (A := fun q : Nat => s.heap.size ≤ q) (by decide) (hs (Cond.arrayOf (.static "SchubertDesk" "READ_BIT" "[I") .int) (by decide +kernel)) (va_eqt (hs (Cond.eq (.length (.static "SchubertDesk" "READ_BIT" "[I")) (.int 10)) (by decide +kernel))) (fun j hj => by
    rcases (show j = 0 ∨ j = 1 ∨ j = 2 ∨ j = 3 ∨ j = 4 ∨ j = 5 ∨ j = 6 ∨ j = 7 ∨ j = 8 ∨ j = 9 by omega) with rfl | rfl | rfl | rfl | rfl | rfl | rfl | rfl | rfl | rfl
    · exact va_eqt (hs (Cond.eq (.elem (.static "SchubertDesk" "READ_BIT" "[I") (.int 0)) (.int 3)) (by decide +kernel))
    · exact va_eqt (hs (Cond.eq (.elem (.static "SchubertDesk" "READ_BIT" "[I") (.int 1)) (.int 2)) (by decide +kernel))
    · exact va_eqt (hs (Cond.eq (.elem (.static "SchubertDesk" "READ_BIT" "[I") (.int 2)) (.int 1)) (by decide +kernel))
    · exact va_eqt (hs (Cond.eq (.elem (.static "SchubertDesk" "READ_BIT" "[I") (.int 3)) (.int 0)) (by decide +kernel))
    · exact va_eqt (hs (Cond.eq (.elem (.static "SchubertDesk" "READ_BIT" "[I") (.int 4)) (.int 6)) (by decide +kernel))
    · exact va_eqt (hs (Cond.eq (.elem (.static "SchubertDesk" "READ_BIT" "[I") (.int 5)) (.int 5)) (by decide +kernel))
    · exact va_eqt (hs (Cond.eq (.elem (.static "SchubertDesk" "READ_BIT" "[I") (.int 6)) (.int 4)) (by decide +kernel))
    · exact va_eqt (hs (Cond.eq (.elem (.static "SchubertDesk" "READ_BIT" "[I") (.int 7)) (.int 8)) (by decide +kernel))
    · exact va_eqt (hs (Cond.eq (.elem (.static "SchubertDesk" "READ_BIT" "[I") (.int 8)) (.int 7)) (by decide +kernel))
    · exact va_eqt (hs (Cond.eq (.elem (.static "SchubertDesk" "READ_BIT" "[I") (.int 9)) (.int 9)) (by decide +kernel))) hA
  exact ⟨t, va_Zref (hts (Cond.laysStatic "SchubertDesk" "READ_BIT" "[I") (by decide +kernel)) (hts (Cond.initialized "SchubertDesk") (by decide +kernel)) h1 hA, h2⟩
set_option maxRecDepth 20000 in
theorem tb_READ_PLACE {args : Array Value} {s : State} (hts : ∀ w ∈ lw_tbl, w.before args s = true) (hs : ∀ c ∈ flatC (Jvm.Cond.and given_1 narrow_1), c.before args s = true) : ∃ t : Nat, gxT "READ_PLACE" t 10 tREAD_PLACE (fun q => s.heap.size ≤ q) s s.heap := by
  have hA : ∀ a : Nat, a < s.heap.size → ¬ (fun q : Nat => s.heap.size ≤ q) a := fun a h => Nat.not_le.mpr h
  obtain ⟨t, h1, h2⟩ := va_Tof (tm := (.static "SchubertDesk" "READ_PLACE" "[I")) (ty := .int) (N := 10) (f := fun j => .int (tREAD_PLACE j)) (A := fun q : Nat => s.heap.size ≤ q) (by decide) (hs (Cond.arrayOf (.static "SchubertDesk" "READ_PLACE" "[I") .int) (by decide +kernel)) (va_eqt (hs (Cond.eq (.length (.static "SchubertDesk" "READ_PLACE" "[I")) (.int 10)) (by decide +kernel))) (fun j hj => by
    rcases (show j = 0 ∨ j = 1 ∨ j = 2 ∨ j = 3 ∨ j = 4 ∨ j = 5 ∨ j = 6 ∨ j = 7 ∨ j = 8 ∨ j = 9 by omega) with rfl | rfl | rfl | rfl | rfl | rfl | rfl | rfl | rfl | rfl
    · exact va_eqt (hs (Cond.eq (.elem (.static "SchubertDesk" "READ_PLACE" "[I") (.int 0)) (.int 4)) (by decide +kernel))
    · exact va_eqt (hs (Cond.eq (.elem (.static "SchubertDesk" "READ_PLACE" "[I") (.int 1)) (.int 3)) (by decide +kernel))
    · exact va_eqt (hs (Cond.eq (.elem (.static "SchubertDesk" "READ_PLACE" "[I") (.int 2)) (.int 2)) (by decide +kernel))
    · exact va_eqt (hs (Cond.eq (.elem (.static "SchubertDesk" "READ_PLACE" "[I") (.int 3)) (.int 1)) (by decide +kernel))
    · exact va_eqt (hs (Cond.eq (.elem (.static "SchubertDesk" "READ_PLACE" "[I") (.int 4)) (.int 4)) (by decide +kernel))
    · exact va_eqt (hs (Cond.eq (.elem (.static "SchubertDesk" "READ_PLACE" "[I") (.int 5)) (.int 3)) (by decide +kernel))
    · exact va_eqt (hs (Cond.eq (.elem (.static "SchubertDesk" "READ_PLACE" "[I") (.int 6)) (.int 2)) (by decide +kernel))
    · exact va_eqt (hs (Cond.eq (.elem (.static "SchubertDesk" "READ_PLACE" "[I") (.int 7)) (.int 4)) (by decide +kernel))
    · exact va_eqt (hs (Cond.eq (.elem (.static "SchubertDesk" "READ_PLACE" "[I") (.int 8)) (.int 3)) (by decide +kernel))
    · exact va_eqt (hs (Cond.eq (.elem (.static "SchubertDesk" "READ_PLACE" "[I") (.int 9)) (.int 4)) (by decide +kernel))) hA
  exact ⟨t, va_Zref (hts (Cond.laysStatic "SchubertDesk" "READ_PLACE" "[I") (by decide +kernel)) (hts (Cond.initialized "SchubertDesk") (by decide +kernel)) h1 hA, h2⟩
set_option maxRecDepth 20000 in
theorem nest_start {args : Array Value} {s : State} (hts : ∀ w ∈ lw_tbl, w.before args s = true) : ∀ w ∈ nestWs, va_Nw w s := by
  have hin : ∀ w ∈ nestWs, w ∈ lw_tbl := by decide +kernel
  intro w hw
  have h1 := hts w (hin w hw)
  unfold nestWs at hw
  repeat' (rcases List.mem_cons.mp hw with rfl | hw; exact va_Nw.of rfl h1)
  cases hw
set_option maxRecDepth 20000 in
theorem gx_start {args : Array Value} {s : State} (hts : ∀ w ∈ lw_tbl, w.before args s = true) (hgv : (Jvm.Cond.and given_1 narrow_1).before args s = true) : ∃ G : GX, gx G (fun q => s.heap.size ≤ q) s s.heap := by
  have hs := flat_of_before _ hgv
  obtain ⟨c0, i0, k0⟩ := u_known (C := RX0) (T := TX0) (N := 2) (n := 2) hts wlf_X0 (hts (.instantiable RX0 2) (by decide +kernel))
  obtain ⟨c1, i1, k1⟩ := u_known (C := RX1) (T := TX1) (N := 1) (n := 1) hts wlf_X1 (hts (.instantiable RX1 1) (by decide +kernel))
  obtain ⟨c2, i2, k2⟩ := u_known (C := RX2) (T := TX2) (N := 2) (n := 2) hts wlf_X2 (hts (.instantiable RX2 2) (by decide +kernel))
  obtain ⟨c3, i3, k3⟩ := u_known (C := RX3) (T := TX3) (N := 3) (n := 3) hts wlf_X3 (hts (.instantiable RX3 3) (by decide +kernel))
  obtain ⟨c4, i4, k4⟩ := u_known (C := RX4) (T := TX4) (N := 4) (n := 4) hts wlf_X4 (hts (.instantiable RX4 4) (by decide +kernel))
  obtain ⟨c5, i5, k5⟩ := u_known (C := RX5) (T := TX5) (N := 7) (n := 7) hts wlf_X5 (hts (.instantiable RX5 7) (by decide +kernel))
  obtain ⟨c6, i6, k6⟩ := u_known (C := RX6) (T := TX6) (N := 16) (n := 16) hts wlf_X6 (hts (.instantiable RX6 16) (by decide +kernel))
  obtain ⟨cI, hI1, hI2⟩ := arr_start (hts (.arrayClass .int) (by decide +kernel)) (fun C h => by cases h)
  obtain ⟨cJ, hJ1, hJ2⟩ := arr_start (hts (.arrayClass .long) (by decide +kernel)) (fun C h => by cases h)
  obtain ⟨t1, h1⟩ := tb_STRIDE hts hs
  obtain ⟨t2, h2⟩ := tb_MOST hts hs
  obtain ⟨t3, h3⟩ := tb_FIRST_BIT hts hs
  obtain ⟨t4, h4⟩ := tb_READ_BIT hts hs
  obtain ⟨t5, h5⟩ := tb_READ_PLACE hts hs
  refine ⟨((fun k => if k = 0 then c0 else if k = 1 then c1 else if k = 2 then c2 else if k = 3 then c3 else if k = 4 then c4 else if k = 5 then c5 else c6, fun k => if k = 0 then i0 else if k = 1 then i1 else if k = 2 then i2 else if k = 3 then i3 else if k = 4 then i4 else if k = 5 then i5 else i6), cI, cJ, t1, t2, t3, t4, t5), ⟨?_, ?_⟩, nest_start hts, h1, h2, h3, h4, h5⟩
  · intro k q hq
    match k, hq with
    | 0, hq => cases hq; exact k0
    | 1, hq => cases hq; exact k1
    | 2, hq => cases hq; exact k2
    | 3, hq => cases hq; exact k3
    | 4, hq => cases hq; exact k4
    | 5, hq => cases hq; exact k5
    | 6, hq => cases hq; exact k6
    | k + 7, hq => simp [vwCl] at hq
  · intro k q hq
    match k, hq with
    | 0, hq => cases hq; exact ⟨hI1, hI2⟩
    | 1, hq => cases hq; exact ⟨hJ1, hJ2⟩
    | k + 2, hq => simp at hq
