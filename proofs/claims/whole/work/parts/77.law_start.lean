set_option maxHeartbeats 4000000 in
set_option maxRecDepth 100000 in
/-- from the entry, for every script of at most 3072 ints, the law comes to its end with true -/
theorem whole_start {p : Program} {e : Env} {s : State} {m : MethodId} {below : List Frame} {meth : Method} {c : Code} (l : Launch) (hflags : l.flags = flags0) {b L : Nat} {xs : Nat → Int32} (hL : L ≤ 3072) (C0 : lw_At p s m meth c b L xs) : W p l e room_1 s m #[Value.ref b] below meth c s.heap [] 0 0 (lw_Z below #[Value.ref b] s) (entryFrame m ([Value.ref b] : List Value).toArray 4) := by
  obtain ⟨hx, hb, hr, hml, hown, hts0, hX, hbl, hlocks, hgv⟩ := C0
  obtain ⟨G, hG⟩ := gx_start hts0 hgv
  have hts : ∀ w ∈ wsL_law, w.before #[Value.ref b] s = true := fun w h => hts0 w (wsL_law_in w h)
  have hA : ∀ q : Nat, s.heap.size ≤ q → (fun q : Nat => s.heap.size ≤ q) q := fun _ h => h
  have C : Cx p s m #[Value.ref b] meth c cL_law 4 ret wsL_law RL G (fun q => s.heap.size ≤ q) := ⟨hx, hb, hml, hown, hts, hr, hlocks, hA, hG⟩
  have hS : va_S (fun q : Nat => s.heap.size ≤ q) s.heap s.heap [] := va_S.rf
  have hP : va_P G.1 vwCl [] s.heap := fun k q h => by simp at h
  have hD : va_D (fun q : Nat => s.heap.size ≤ q) [] := ⟨fun i j p q h => by simp at h, fun k q h => by simp at h⟩
  have hl := lv_entry ([.ref b]) (n := 4) (Nat.le_of_ble_eq_true rfl)
  rw [lg_entry_eq]
  generalize (lg_sl ([.ref b]) ++ List.replicate (4 - (lg_sl ([.ref b])).length) Slot.unset).toArray = ls at hl ⊢
  have hl : lv_has ls 4 [(0, .ref b)] := hl
  have ok : (1 : Nat) = 1 := rfl
  refine va_new (ci := 5) (fs := [.null, .null, .null, .null, .null, .null, .null]) (C := RX5) (T := TX5) (N := 7) hx hb hts0 wlf_X5 tyX5 tyX5_ok hown (hts0 (.classLink RL 7 RX5) (by decide +kernel)) (hts0 (.instantiable RX5 7) (by decide +kernel)) (hts0 (.initialized RX5) (by decide +kernel)) hG.1 hP hD hS hA rfl (fun j hj => by rcases (show j = 0 ∨ j = 1 ∨ j = 2 ∨ j = 3 ∨ j = 4 ∨ j = 5 ∨ j = 6 by omega) with rfl | rfl | rfl | rfl | rfl | rfl | rfl <;> rfl) (Nat.le_of_ble_eq_true rfl) (Nat.le_of_ble_eq_true rfl) dL_law_0 (fun u0 H hP hD hS => ?_)
  have hP : va_P G.1 vwCl [(u0, .inr (5, [.null, .null, .null, .null, .null, .null, .null]))] H := hP
  have hD : va_D (fun q : Nat => s.heap.size ≤ q) [(u0, .inr (5, [.null, .null, .null, .null, .null, .null, .null]))] := hD
  refine lv_dup hx hb dL_law_3 rfl ?_
  refine cl_I (rest := [.ref u0]) (As := []) C hP hD hS (tX5_init l G u0) (cwI 0 hts0 (fun w h => ⟨wsL_law_in w (gL_law_X5_init w h).1, (gL_law_X5_init w h).2⟩) rfl rfl rfl (hts0 (.initialized RX5) (by decide +kernel)) (hts0 (.methodLink RL 9 yX5_init) (by decide +kernel)) (hts0 (.instanceMethod yX5_init) (by decide +kernel)) rfl (by decide +kernel) ⟨Nat.le_of_ble_eq_true rfl, Nat.le_of_ble_eq_true rfl⟩) [0] [] rfl rfl rfl rfl (by decide) rfl hl.1 rfl (Nat.le_of_ble_eq_true rfl) dL_law_4 ⟨Nat.le_of_ble_eq_true rfl, Nat.le_of_ble_eq_true rfl⟩ (fun w1 H locs hQ hP hD hS => ?_)
  obtain ⟨u1, u2, u3, u4, u5, u6, u7, u8, u9, u10, u11, u12, u13, u14, u15, u16, u17, u18, u19, u20, u21, u22, u23, rfl⟩ := hQ
  have hP : va_P G.1 vwCl [(u0, .inr (5, [.ref u1, .ref u3, .ref u5, .ref u7, .ref u9, .ref u12, .ref u18])), (u1, .inr (1, [.ref u2])), (u2, .inl (G.2.1, 10, .inl (fun _ => 0))), (u3, .inr (1, [.ref u4])), (u4, .inl (G.2.1, 10, .inl (fun _ => 0))), (u5, .inr (1, [.ref u6])), (u6, .inl (G.2.1, 10, .inl (fun _ => 0))), (u7, .inr (0, [.ref u8, .int 0])), (u8, .inl (G.2.1, 32, .inl (fun _ => 0))), (u9, .inr (2, [.ref u10, .ref u11])), (u10, .inl (G.2.2.1, 3024, .inr (.inl (fun _ => 0)))), (u11, .inl (G.2.1, 5, .inl (fun _ => 0))), (u12, .inr (4, [.ref u13, .ref u16, .ref u17, .int (-1)])), (u13, .inr (2, [.ref u14, .ref u15])), (u14, .inl (G.2.2.1, 3024, .inr (.inl (fun _ => 0)))), (u15, .inl (G.2.1, 5, .inl (fun _ => 0))), (u16, .inl (G.2.1, 5, .inl (fun _ => 0))), (u17, .inl (G.2.1, 6, .inl (fun _ => 0))), (u18, .inr (3, [.ref u19, .ref u22, .int 0])), (u19, .inr (2, [.ref u20, .ref u21])), (u20, .inl (G.2.2.1, 3024, .inr (.inl (fun _ => 0)))), (u21, .inl (G.2.1, 5, .inl (fun _ => 0))), (u22, .inr (0, [.ref u23, .int 0])), (u23, .inl (G.2.1, 3024, .inl (fun _ => 0)))] H := hP
  have hD : va_D (fun q : Nat => s.heap.size ≤ q) [(u0, .inr (5, [.ref u1, .ref u3, .ref u5, .ref u7, .ref u9, .ref u12, .ref u18])), (u1, .inr (1, [.ref u2])), (u2, .inl (G.2.1, 10, .inl (fun _ => 0))), (u3, .inr (1, [.ref u4])), (u4, .inl (G.2.1, 10, .inl (fun _ => 0))), (u5, .inr (1, [.ref u6])), (u6, .inl (G.2.1, 10, .inl (fun _ => 0))), (u7, .inr (0, [.ref u8, .int 0])), (u8, .inl (G.2.1, 32, .inl (fun _ => 0))), (u9, .inr (2, [.ref u10, .ref u11])), (u10, .inl (G.2.2.1, 3024, .inr (.inl (fun _ => 0)))), (u11, .inl (G.2.1, 5, .inl (fun _ => 0))), (u12, .inr (4, [.ref u13, .ref u16, .ref u17, .int (-1)])), (u13, .inr (2, [.ref u14, .ref u15])), (u14, .inl (G.2.2.1, 3024, .inr (.inl (fun _ => 0)))), (u15, .inl (G.2.1, 5, .inl (fun _ => 0))), (u16, .inl (G.2.1, 5, .inl (fun _ => 0))), (u17, .inl (G.2.1, 6, .inl (fun _ => 0))), (u18, .inr (3, [.ref u19, .ref u22, .int 0])), (u19, .inr (2, [.ref u20, .ref u21])), (u20, .inl (G.2.2.1, 3024, .inr (.inl (fun _ => 0)))), (u21, .inl (G.2.1, 5, .inl (fun _ => 0))), (u22, .inr (0, [.ref u23, .int 0])), (u23, .inl (G.2.1, 3024, .inl (fun _ => 0)))] := hD
  refine lv_astore_n (lv' := [(1, .ref u0), (0, .ref b)]) hx hb dL_law_7 rfl hl (by decide) rfl (fun ls hl => ?_)
  refine va_new (ci := 6) (fs := [.null, .null, .null, .null, .null, .null, .null, .null, .null, .int 0, .null, .int 0, .null, .null, .int 0, .null]) (C := RX6) (T := TX6) (N := 16) hx hb hts0 wlf_X6 tyX6 tyX6_ok hown (hts0 (.classLink RL 10 RX6) (by decide +kernel)) (hts0 (.instantiable RX6 16) (by decide +kernel)) (hts0 (.initialized RX6) (by decide +kernel)) hG.1 hP hD hS hA rfl (fun j hj => by rcases (show j = 0 ∨ j = 1 ∨ j = 2 ∨ j = 3 ∨ j = 4 ∨ j = 5 ∨ j = 6 ∨ j = 7 ∨ j = 8 ∨ j = 9 ∨ j = 10 ∨ j = 11 ∨ j = 12 ∨ j = 13 ∨ j = 14 ∨ j = 15 by omega) with rfl | rfl | rfl | rfl | rfl | rfl | rfl | rfl | rfl | rfl | rfl | rfl | rfl | rfl | rfl | rfl <;> rfl) (Nat.le_of_ble_eq_true rfl) (Nat.le_of_ble_eq_true rfl) dL_law_8 (fun v0 H hP hD hS => ?_)
  refine lv_dup hx hb dL_law_11 rfl ?_
  refine cl_I (rest := [.ref v0]) (As := []) C hP hD hS (tX6_init l G v0) (cwI 0 hts0 (fun w h => ⟨wsL_law_in w (gL_law_X6_init w h).1, (gL_law_X6_init w h).2⟩) rfl rfl rfl (hts0 (.initialized RX6) (by decide +kernel)) (hts0 (.methodLink RL 12 yX6_init) (by decide +kernel)) (hts0 (.instanceMethod yX6_init) (by decide +kernel)) rfl (by decide +kernel) ⟨Nat.le_of_ble_eq_true rfl, Nat.le_of_ble_eq_true rfl⟩) [24] [0, 1, 2, 3, 4, 5, 6, 7, 8, 9, 10, 11, 12, 13, 14, 15, 16, 17, 18, 19, 20, 21, 22, 23] rfl rfl rfl rfl (by decide) rfl hl.1 rfl (Nat.le_of_ble_eq_true rfl) dL_law_12 ⟨Nat.le_of_ble_eq_true rfl, Nat.le_of_ble_eq_true rfl⟩ (fun w1 H locs hQ hP hD hS => ?_)
  obtain ⟨v1, v2, v3, v4, v5, v6, v7, v8, v9, v10, v11, v12, v13, rfl⟩ := hQ
  refine lv_astore_n (lv' := [(2, .ref v0), (1, .ref u0), (0, .ref b)]) hx hb dL_law_15 rfl hl (by decide) rfl (fun ls hl => ?_)
  refine lv_iconst (v := 0) hx hb dL_law_16 (by decide) ?_
  refine lv_istore_n (lv' := [(3, .int 0), (2, .ref v0), (1, .ref u0), (0, .ref b)]) hx hb dL_law_17 rfl hl (by decide) rfl (fun ls hl => ?_)
  refine W.widen (k := 38) (n := 67114) (Nat.le_of_ble_eq_true rfl) (Nat.le_of_ble_eq_true rfl) ?_
  exact law_loop hL ⟨C, hX, hbl⟩ (fun j => [u0, u1, u2, u3, u4, u5, u6, u7, u8, u9, u10, u11, u12, u13, u14, u15, u16, u17, u18, u19, u20, u21, u22, u23, v0, v1, v2, v3, v4, v5, v6, v7, v8, v9, v10, v11, v12, v13].getD j 0) (L + 1) 0 0 (Nat.zero_le L) (by omega) nI_0.symm (fun _ => 0) (fun _ => 0) (fun _ => 0) (fun _ => 0) 0 (fun _ => 0) (fun _ => 0) (fun _ => 0) (fun _ => 0) (fun _ => 0) (fun _ => 0) (-1) (fun _ => 0) (fun _ => 0) (fun _ => 0) 0 0 (fun _ => 0) (fun _ => 0) (fun _ => 0) (fun _ => 0) (fun _ => 0) (fun _ => 0) (fun _ => 0) (fun _ => 0) (fun _ => 0) 0 (fun _ => 0) 0 (fun _ => 0) (fun _ => 0) 0 (fun _ => 0) H locs ls rel_init hP hD hS (lv_sub hl [3, 2, 1, 0] rfl)
-- ===== YOUR PART ENDS =====
set_option maxHeartbeats 4000000 in
theorem lw_walk (l : Launch) (hflags : l.flags = flags0) (b : Addr) (xs : List Int32) : MetFree l x (headSpec (Jvm.Cond.code x code maxLocals ret :: tables_1) room_1) (lw_P b xs) (fun _ _ _ _ _ => True) lw_Q := by
  refine MetFree.of_bodyS (code := code) (maxLocals := maxLocals) (ret := ret) (by decide) ?_ ?_
  · intro args s m h hn
    obtain ⟨meth, c, h1, h2, h3, h4, h5, h6, -, -⟩ := Cond.code_spec hn (atoms_spec (ws := Jvm.Cond.code x code maxLocals ret :: tables_1) h _ List.mem_cons_self)
    exact ⟨meth, c, h1, h2, h3, h4, h5, h6⟩
  · intro p e s m args below meth c s₁ B hml0 hP _
    obtain ⟨rfl, hx, hbd, hgv⟩ := hP
    obtain ⟨scr, harrAt, hlist, hof, hsmall⟩ := hx
    obtain ⟨hcb, hkn, -, -⟩ := State.arrayAt?_spec harrAt
    have hown : s.vm.findClass R_law = some m.cls := findClass_of_methodNamed B.named
    have hts0 : ∀ c ∈ (Jvm.Cond.code x code maxLocals ret :: tables_1), c.before #[Value.ref b] s = true := atoms_spec (ws := Jvm.Cond.code x code maxLocals ret :: tables_1) B.pre
    have hts : ∀ w ∈ lw_tbl, w.before #[Value.ref b] s = true := k2_hts_sels lw_privs (fun w hw => hts0 w (List.mem_cons_of_mem _ hw)) lw_privs_ok
    have hml : c.maxLocals = 4 := B.maxLocals_eq (hts0 _ List.mem_cons_self)
    have X₀ : Stand p l e room_1 s m #[Value.ref b] below meth c s₁ [] 0 0 := Stand.of_body B
    have hh0 : s₁.heap = s.heap := by rw [B.state]; rfl
    have hsz : scr.slots.size = xs.length := by rw [← Array.length_toList, hlist, List.length_map]
    have hval : ∀ j : Nat, j < xs.length → scr.slots[j]? = some (.int (xs.getD j 0)) := fun j hj => by
      rw [← Array.getElem?_toList, hlist]
      simp [hj]
    have hbl : b < s.heap.size := (Array.getElem?_eq_some_iff.mp hcb).1
    have hX : va_X b xs.length (fun j => xs.getD j 0) s s.heap := ⟨scr, hcb, hof, hkn, hsz, hval⟩
    have K : W p l e room_1 s m #[Value.ref b] below meth c s₁.heap [] 0 0 (lw_Z below #[Value.ref b] s) (entryFrame m ([Value.ref b] : List Value).toArray 4) := by
      rw [hh0]
      exact whole_start l hflags hbd ⟨B.exec, B.bytes, B.returns, hml, hown, hts, hX, hbl, B.notSynchronized, hgv⟩
    obtain ⟨t, a1, o, b1, b2, b3⟩ := K s₁ rfl X₀
    exact ⟨t, o, a1, b1, b2, b3⟩
theorem lw_pre_spec {args : Array Value} {s : State} (h : (Jvm.Cond.and given_1 narrow_1).before args s = true) (hr : rest_1_c.before args s = true) : ∃ (b : Addr) (xs : List Int32), lw_P b xs args s := by
  have hs := flat_of_before _ h
  have hq := flat_of_before _ hr
  have hc : (Cond.count 1).before args s = true := hs _ (by decide +kernel)
  have harr : (Cond.arrayOf (.arg 0) .int).before args s = true := hs _ (by decide +kernel)
  have hle : (Cond.le (.length (.arg 0)) (.int 3072)).before args s = true := hs _ (by decide +kernel)
  have hlen : (Cond.isInt (.length (.arg 0))).before args s = true := hq _ (by decide +kernel)
  have hall : (Cond.all (.arg 0) (.isInt (.elem (.arg 0) (.index 0)))).before args s = true := hq _ (by decide +kernel)
  obtain ⟨b, xs, hb, hx⟩ := State.ints_of_pre rfl harr hlen hall
  have hsm : xs.length < 2 ^ 31 := hx.choose_spec.2.2.2
  have hev : (Term.length (.arg 0)).eval args s none [] s = some (.int xs.length.toInt32) := hx.length_eval hb
  have hv := Cond.le_ints hev (show (Term.int 3072).eval args s none [] s = some (.int 3072) from rfl)
  have hd : xs.length.toInt32 ≤ 3072 := by
    simpa [Cond.before, Cond.holds, hv] using hle
  have hN : xs.length ≤ 3072 := (Int32.ofNat_le_ofNat hsm (by decide)).mp (show Int32.ofNat xs.length ≤ Int32.ofNat 3072 from hd)
  exact ⟨b, xs, Cond.one_arg hc (show args[0]? = some (.ref b) from hb), hx, hN, h⟩
theorem lw_comes (l : Launch) (hflags : l.flags = flags0) : Comes l x (Jvm.Cond.code x code maxLocals ret :: tables_1) room_1 (fun tb e args s => Calls_1 tb e args s ∧ rest_1 tb e args s ∧ Pre_1 tb e args s)
    (fun _ _ args s o t => lw_Q args s o t) := by
  intro p e ha hc hk s m args below hf hfit hheap happ hpre
  obtain ⟨b, xs, hP⟩ := lw_pre_spec hpre.2.2 hpre.2.1
  obtain ⟨k, o, h1, h2, h3, hQ⟩ := lw_walk l hflags b xs p e ha hc hk s m args below hf ((Spec.applies_iff_loose hf).mp happ).1 hP trivial
  exact ⟨k, o, h1, h2, h3, hQ⟩
theorem lw_frame {s t : State} {o : Outcome} {args : Array Value} (h : Framed s o t [] 600000 7302250) :
    Framed s o t (fieldLocs frame_1_writes args s ++ arrayLocs frame_1_arrays args s ++ staticLocs frame_1_statics s) 600000 7302250 := h
theorem lw_limb (L : Cond) (hL : ∀ (args : Array Value) (s t : State), L.after args s (.returned (some (.int 1))) t = true) :
    ArmFor flags0 classFile x code maxLocals ret World_1 tables_1 room_1 Calls_1 rest_1 Pre_1
      (fun tb e a s o t => postC L tb e a s o t ∧ Framed s o t (fieldLocs frame_1_writes a s ++ arrayLocs frame_1_arrays a s ++ staticLocs frame_1_statics s) 600000 7302250) := by
  intro l hflags _ _ p e ha hc hk s m args below hf hfit hheap happ hpre
  obtain ⟨k, o, h1, h2, h3, rfl, hF⟩ := lw_comes l hflags p e ha hc hk s m args below hf hfit hheap happ hpre
  exact ⟨k, _, h1, h2, h3, hL args s _, lw_frame hF⟩
theorem i_vc : Claimed_1_1 ∧ Claimed_1_2 := ⟨lw_limb limb_1_1 (fun args s t => by simp [limb_1_1, Cond.after, Cond.holds, Cond.value]), lw_limb limb_1_2 (fun args s t => Cond.after_iff.mpr (by
  first | (rw [show limb_1_2 = Cond.eq .result (.int 1) from rfl, Cond.eq_ints (x := 1) (y := 1) rfl rfl]; simp; done) | (simp [limb_1_2, Cond.value, Term.eval]; done)))⟩
