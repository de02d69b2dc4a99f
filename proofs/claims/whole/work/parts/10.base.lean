/-! ===== my own base: pure programs with a failure, the surroundings of a method, contracts that are functions ===== -/
/-- how far a loop may go at most -/
def fu : Nat := 40000
def gI {β : Type} (f : Nat → Int32) (n : Nat) (i : Int32) (k : Int32 → Option β) : Option β := if i < 0 ∨ n ≤ i.toNatClampNeg then none else k (f i.toNatClampNeg)
def gJ {β : Type} (f : Nat → Int64) (n : Nat) (i : Int32) (k : Int64 → Option β) : Option β := if i < 0 ∨ n ≤ i.toNatClampNeg then none else k (f i.toNatClampNeg)
def pI {β : Type} (f : Nat → Int32) (n : Nat) (i v : Int32) (k : (Nat → Int32) → Option β) : Option β := if i < 0 ∨ n ≤ i.toNatClampNeg then none else k (upd f i.toNatClampNeg v)
def pJ {β : Type} (f : Nat → Int64) (n : Nat) (i : Int32) (v : Int64) (k : (Nat → Int64) → Option β) : Option β := if i < 0 ∨ n ≤ i.toNatClampNeg then none else k (vp_updL f i.toNatClampNeg v)
def cY {α β : Type} (f : Nat → α) (n0 : Nat) (sp : Int32) (g : Nat → α) (n1 : Nat) (dp n : Int32) (k : (Nat → α) → Option β) : Option β :=
  if sp < 0 ∨ dp < 0 ∨ n < 0 ∨ n0 < sp.toNatClampNeg + n.toNatClampNeg ∨ n1 < dp.toNatClampNeg + n.toNatClampNeg then none else k (va_cpy f g sp.toNatClampNeg dp.toNatClampNeg n.toNatClampNeg)
def nm {α β : Type} (e : α) (k : α → Option β) : Option β := k e
def bd {α β : Type} (o : Option α) (k : α → Option β) : Option β := match o with
  | none => none
  | some x => k x
def bz {β : Type} (v : Int32) (k : Option β) : Option β := if v = 0 ∨ v = 1 then k else none
theorem gI_use {β : Type} {f : Nat → Int32} {n : Nat} {i : Int32} {k : Int32 → Option β} {r : β} (h : gI f n i k = some r) : vp_in i n ∧ k (f i.toNatClampNeg) = some r := by
  unfold gI at h; split at h
  · cases h
  · exact ⟨‹_›, h⟩
theorem gJ_use {β : Type} {f : Nat → Int64} {n : Nat} {i : Int32} {k : Int64 → Option β} {r : β} (h : gJ f n i k = some r) : vp_in i n ∧ k (f i.toNatClampNeg) = some r := by
  unfold gJ at h; split at h
  · cases h
  · exact ⟨‹_›, h⟩
theorem pI_use {β : Type} {f : Nat → Int32} {n : Nat} {i v : Int32} {k : (Nat → Int32) → Option β} {r : β} (h : pI f n i v k = some r) : vp_in i n ∧ k (upd f i.toNatClampNeg v) = some r := by
  unfold pI at h; split at h
  · cases h
  · exact ⟨‹_›, h⟩
theorem pJ_use {β : Type} {f : Nat → Int64} {n : Nat} {i : Int32} {v : Int64} {k : (Nat → Int64) → Option β} {r : β} (h : pJ f n i v k = some r) : vp_in i n ∧ k (vp_updL f i.toNatClampNeg v) = some r := by
  unfold pJ at h; split at h
  · cases h
  · exact ⟨‹_›, h⟩
theorem cY_use {α β : Type} {f g : Nat → α} {n0 n1 : Nat} {sp dp n : Int32} {k : (Nat → α) → Option β} {r : β} (h : cY f n0 sp g n1 dp n k = some r) : (¬ sp < 0 ∧ ¬ dp < 0 ∧ ¬ n < 0 ∧ sp.toNatClampNeg + n.toNatClampNeg ≤ n0 ∧ dp.toNatClampNeg + n.toNatClampNeg ≤ n1) ∧ k (va_cpy f g sp.toNatClampNeg dp.toNatClampNeg n.toNatClampNeg) = some r := by
  unfold cY at h; split at h
  · cases h
  · rename_i q
    exact ⟨⟨fun z => q (Or.inl z), fun z => q (Or.inr (Or.inl z)), fun z => q (Or.inr (Or.inr (Or.inl z))), Nat.not_lt.mp fun z => q (Or.inr (Or.inr (Or.inr (Or.inl z)))), Nat.not_lt.mp fun z => q (Or.inr (Or.inr (Or.inr (Or.inr z))))⟩, h⟩
theorem nm_use {α β : Type} {x e : α} {k : α → Option β} {r : β} (hx : x = e) (h : nm e k = some r) : k x = some r := by subst hx; exact h
theorem bd_use {α β : Type} {o : Option α} {k : α → Option β} {r : β} (h : bd o k = some r) : ∃ x, o = some x ∧ k x = some r := by
  cases o with
  | none => cases h
  | some x => exact ⟨x, rfl, h⟩
theorem bz_use {β : Type} {v : Int32} {k : Option β} {r : β} (h : bz v k = some r) : (v = 0 ∨ v = 1) ∧ k = some r := by
  unfold bz at h; split at h
  · exact ⟨‹_›, h⟩
  · cases h
theorem if_t {β : Type} {c : Prop} [Decidable c] {a b : Option β} {r : β} (hc : c) (h : (if c then a else b) = some r) : a = some r := by rw [if_pos hc] at h; exact h
theorem if_f {β : Type} {c : Prop} [Decidable c] {a b : Option β} {r : β} (hc : ¬ c) (h : (if c then a else b) = some r) : b = some r := by rw [if_neg hc] at h; exact h
theorem sw_out {x : Int32} {lo hi : Int} (h : ∀ k : Int, lo ≤ k → k ≤ hi → x ≠ Int32.ofInt k) : x.toInt < lo ∨ hi < x.toInt := by
  by_cases h1 : x.toInt < lo
  · exact Or.inl h1
  · by_cases h2 : hi < x.toInt
    · exact Or.inr h2
    · exact absurd (Int32.ofInt_toInt x).symm (h x.toInt (by omega) (by omega))
/-! the static tables -/
def tSTRIDE (j : Nat) : Int32 := ([0, 1, 9, 72, 504] : List Int32).getD j 0
def tMOST (j : Nat) : Int32 := ([0, 8, 7, 6, 5] : List Int32).getD j 0
def tFIRST_BIT (j : Nat) : Int32 := ([0, 0, 4, 7, 9] : List Int32).getD j 0
def tREAD_BIT (j : Nat) : Int32 := ([3, 2, 1, 0, 6, 5, 4, 8, 7, 9] : List Int32).getD j 0
def tREAD_PLACE (j : Nat) : Int32 := ([4, 3, 2, 1, 4, 3, 2, 4, 3, 4] : List Int32).getD j 0
/-- the classes' numbers and slots, the array classes of int and long, the addresses of the five tables -/
abbrev GX : Type := va_G × ClassId × ClassId × Nat × Nat × Nat × Nat × Nat
def nestWs : List Cond := [.methodLinkNest RX5 11 yX1_init RX5, .methodLinkNest RX5 35 yX2_init RX5, .methodLinkNest RX5 42 yX4_init RX5, .methodLinkNest RX4 11 yX2_init RX5, .methodLinkNest RX5 49 yX3_init RX5, .methodLinkNest RX3 11 yX2_init RX5, .methodLinkNest RX1 27 yX5_exponentAt RX5, .methodLinkNest RX1 50 yX5_cellOf RX5, .methodLinkNest RX4 29 yX5_exponentAt RX5, .methodLinkNest RX4 37 yX5_cellOf RX5, .methodLinkNest RX2 38 yX5_exponentAt RX5, .fieldLinkNest RX2 69 RX5 "STRIDE" "[I" RX5, .fieldLinkNest RX2 50 RX5 "MOST" "[I" RX5, .methodLinkNest RX2 53 yX5_cellOf RX5, .fieldLinkNest RX1 34 RX5 "READ_BIT" "[I" RX5, .fieldLinkNest RX1 37 RX5 "READ_PLACE" "[I" RX5]
def gxT (n : String) (t N : Nat) (f : Nat → Int32) (A : Nat → Prop) (U : State) (H : Heap) : Prop := va_Z RX5 n "[I" (.ref t) A U H ∧ va_T .int t N (fun j => .int (f j)) A U H
def gx (G : GX) (A : Nat → Prop) (U : State) (H : Heap) : Prop := va_K G.1 vwCl [(G.2.1, .int), (G.2.2.1, .long)] U ∧ (∀ w ∈ nestWs, va_Nw w U) ∧
  gxT "STRIDE" G.2.2.2.1 5 tSTRIDE A U H ∧ gxT "MOST" G.2.2.2.2.1 5 tMOST A U H ∧ gxT "FIRST_BIT" G.2.2.2.2.2.1 5 tFIRST_BIT A U H ∧ gxT "READ_BIT" G.2.2.2.2.2.2.1 10 tREAD_BIT A U H ∧ gxT "READ_PLACE" G.2.2.2.2.2.2.2 10 tREAD_PLACE A U H
theorem gxT.same {n : String} {t N : Nat} {f : Nat → Int32} {A : Nat → Prop} {u U : State} {H : Heap} (hvm : u.vm.Alike U.vm) (h : gxT n t N f A u H) : gxT n t N f A U H := ⟨h.1.moved hvm, h.2.moved hvm⟩
theorem gxT.call {n : String} {t N : Nat} {f : Nat → Int32} {A B : Nat → Prop} {U : State} {H0 H : Heap} {locs : List Loc} (hS : va_S A H0 H locs) (hB : ∀ q, B q → A q) (h : gxT n t N f A U H0) : gxT n t N f B U H := ⟨(h.1.kept hS.2.1).narrow hB, (h.2.kept hS.2.1).narrow hB⟩
theorem nest_warm {s U : State} (hW : s.WarmedH U.vm) (h : ∀ w ∈ nestWs, va_Nw w s) : ∀ w ∈ nestWs, va_Nw w U := by
  intro w hw
  have h1 := h w hw
  unfold nestWs at hw
  repeat' (rcases List.mem_cons.mp hw with rfl | hw; first | exact h1.warmM hW | exact h1.warmF hW)
  cases hw
theorem gx.same {G : GX} {A : Nat → Prop} {u U : State} {H : Heap} (hvm : u.vm = U.vm) (h : gx G A u H) : gx G A U H := by
  have ha : u.vm.Alike U.vm := by rw [hvm]; exact Vm.Alike.refl U.vm
  obtain ⟨h1, h2, h3, h4, h5, h6, h7⟩ := h
  refine ⟨h1.moved ha, fun w hw => ?_, h3.same ha, h4.same ha, h5.same ha, h6.same ha, h7.same ha⟩
  have h9 := h2 w hw
  unfold nestWs at hw
  repeat' (rcases List.mem_cons.mp hw with rfl | hw; exact h9.same rfl hvm)
  cases hw
theorem gx.call {G : GX} {A B : Nat → Prop} {s U : State} {H : Heap} {locs : List Loc} (h : gx G A s s.heap) (hS : va_S A s.heap H locs) (hB : ∀ q, B q → A q) (hW : s.WarmedH U.vm) : gx G B U H := by
  obtain ⟨h1, h2, h3, h4, h5, h6, h7⟩ := h
  have ha : s.vm.Alike U.vm := hW.alike
  exact ⟨h1.moved ha, nest_warm hW h2, (h3.call hS hB).same ha, (h4.call hS hB).same ha, (h5.call hS hB).same ha, (h6.call hS hB).same ha, (h7.call hS hB).same ha⟩
/-! a contract that is a function: called with av in the world w0 it answers r0, and the world is w1 -/
def ctP (G : GX) (av : List Value) (w0 : va_W) (sz : Nat) : Array Value → State → Prop := fun v U => v = av.toArray ∧ U.heap.size = sz ∧ va_P G.1 vwCl w0 U.heap ∧ va_D (fun _ => True) w0 ∧ gx G (va_A w0 sz) U U.heap
def ctQ (G : GX) (A : Nat → Prop) (w1 : va_W) (r0 : Option Value) : Array Value → State → Outcome → State → Prop := fun _ st oc t => oc = .returned r0 ∧ va_P G.1 vwCl w1 t.heap ∧ va_D A w1 ∧ va_F A st t
def Ct (l : Launch) (y : MethodName) (ws : List Cond) (rm : Room) (G : GX) (av : List Value) (w0 w1 : va_W) (r0 : Option Value) : Prop := ∀ sz : Nat, Met l y ws rm (ctP G av w0 sz) (ctQ G (va_A w0 sz) w1 r0) 0 0 (va_A w0 sz)
theorem ctP_blind (G : GX) (av : List Value) (w0 : va_W) (sz : Nat) : FrameBlind (ctP G av w0 sz) := fun a U g mk h => ⟨h.1, h.2.1, h.2.2.1, h.2.2.2.1, gx.same (u := U) (U := U.calling g mk a) rfl h.2.2.2.2⟩
/-- what holds all through a method's body -/
def Cx (p : Program) (s : State) (m : MethodId) (args : Array Value) (meth : Method) (c : Code) (cc : ByteArray) (nL : Nat) (ret : Option FieldType) (ws : List Cond) (own : String) (G : GX) (A : Nat → Prop) : Prop :=
  p.tables.exec = Jvm.exec ∧ c.code = cc ∧ c.maxLocals = nL ∧ s.vm.findClass own = some m.cls ∧ (∀ w ∈ ws, w.before args s = true) ∧ meth.sig.returnType = ret ∧ meth.locks = false ∧ (∀ q, s.heap.size ≤ q → A q) ∧ gx G A s s.heap
theorem Ct.of {l : Launch} {y : MethodName} {ws ws' : List Cond} {rm : Room} {G : GX} {av : List Value} {w0 w1 : va_W} {r0 : Option Value} {cc : ByteArray} {nL : Nat} {ret : Option FieldType} {lv : List (Nat × Value)} (hy : plainName y.cls = true) (hw : ws = Cond.code y cc nL ret :: ws') (hn : (lg_sl av).length ≤ nL) (hlv : lv_args 0 av = lv)
    (body : ∀ (p : Program) (e : Env) (s : State) (m : MethodId) (below : List Frame) (meth : Method) (c : Code) (A : Nat → Prop) (ls : Array Slot), Cx p s m av.toArray meth c cc nL ret ws y.cls G A → va_P G.1 vwCl w0 s.heap → va_D A w0 → lv_has ls nL lv →
      W p l e rm s m av.toArray below meth c s.heap [] 0 0 (MQ below (ctQ G A w1 r0) av.toArray s 0 0 A) (F0 m 0 ls [])) : Ct l y ws rm G av w0 w1 r0 := by
  intro sz
  refine Met.ofW (cc := cc) (maxL := nL) (ret := ret) hy hw ?_
  intro p e s m args below meth c s₁ B hml hv
  obtain ⟨rfl, hsz, hP, hD0, hG⟩ := hv
  have hts := atoms_spec (ws := ws) B.pre
  have hown : s.vm.findClass y.cls = some m.cls := findClass_of_methodNamed B.named
  subst hsz
  have hD := hD0.self (sz := s.heap.size)
  have hl := lv_entry av hn
  rw [lg_entry_eq]
  rw [hlv] at hl
  exact body p e s m below meth c (va_A w0 s.heap.size) _ ⟨B.exec, B.bytes, hml, hown, hts, B.returns, B.notSynchronized, fun q h => Or.inr h, hG⟩ hP hD hl
section MY
variable {p : Program} {l : Launch} {e : Env} {R : Room} {s : State} {m : MethodId} {args : Array Value} {below : List Frame} {meth : Method} {c : Code} {H : Heap} {locs : List Loc} {Q : State → Prop}
variable {cc : ByteArray} {nL : Nat} {ret : Option FieldType} {Ts : List Cond} {own : String} {G : GX} {A : Nat → Prop} {pc : Nat} {ls : Array Slot} {rest st0 st1 : List Value}
/-- returns -/
theorem rt_v {w1 : va_W} (C : Cx p s m args meth c cc nL none Ts own G A) (hP : va_P G.1 vwCl w1 H) (hD : va_D A w1) (hS : va_S A s.heap H locs) (hdg : decode cc pc = .ok (.return_, 1)) : W p l e R s m args below meth c H locs 0 0 (MQ below (ctQ G A w1 none) args s 0 0 A) (F0 m pc ls []) := by
  obtain ⟨hx, hb, hml, hown, hts, hr, hlocks, hA, hG⟩ := C
  exact W.vret hx hb hr (fun t ht hW => ⟨rfl, by rw [ht]; exact hP, hD, hS.F ht⟩) hS.2.2 hdg
theorem rt_i {w1 : va_W} {v : Int32} (C : Cx p s m args meth c cc nL (some .int) Ts own G A) (hP : va_P G.1 vwCl w1 H) (hD : va_D A w1) (hS : va_S A s.heap H locs) (hdg : decode cc pc = .ok (.ireturn, 1)) : W p l e R s m args below meth c H locs 0 0 (MQ below (ctQ G A w1 (some (.int v))) args s 0 0 A) (F0 m pc ls [.int v]) := by
  obtain ⟨hx, hb, hml, hown, hts, hr, hlocks, hA, hG⟩ := C
  exact W.iret hx hb hr (fun t ht hW => ⟨rfl, by rw [ht]; exact hP, hD, hS.F ht⟩) hS.2.2 hdg
theorem rt_l {w1 : va_W} {v : Int64} (C : Cx p s m args meth c cc nL (some .long) Ts own G A) (hP : va_P G.1 vwCl w1 H) (hD : va_D A w1) (hS : va_S A s.heap H locs) (hdg : decode cc pc = .ok (.lreturn, 1)) : W p l e R s m args below meth c H locs 0 0 (MQ below (ctQ G A w1 (some (.long v))) args s 0 0 A) (F0 m pc ls [.long v]) := by
  obtain ⟨hx, hb, hml, hown, hts, hr, hlocks, hA, hG⟩ := C
  exact W.lret hx hb hr (fun t ht hW => ⟨rfl, by rw [ht]; exact hP, hD, hS.F ht⟩) hS.2.2 hdg
theorem rt_z {w1 : va_W} {v : Int32} (C : Cx p s m args meth c cc nL (some .boolean) Ts own G A) (hv : v = 0 ∨ v = 1) (hP : va_P G.1 vwCl w1 H) (hD : va_D A w1) (hS : va_S A s.heap H locs) (hdg : decode cc pc = .ok (.ireturn, 1)) : W p l e R s m args below meth c H locs 0 0 (MQ below (ctQ G A w1 (some (.int v))) args s 0 0 A) (F0 m pc ls [.int v]) := by
  obtain ⟨hx, hb, hml, hown, hts, hr, hlocks, hA, hG⟩ := C
  exact W.zret (ty := .boolean) hx hb hr (by rcases hv with rfl | rfl <;> rfl) (fun t ht hW => ⟨rfl, by rw [ht]; exact hP, hD, hS.F ht⟩) hS.2.2 hdg
theorem rt_a {w1 : va_W} {C : String} {a : Nat} (F : Cx p s m args meth c cc nL (some (.object C)) Ts own G A) (hP : va_P G.1 vwCl w1 H) (hD : va_D A w1) (hS : va_S A s.heap H locs) (hdg : decode cc pc = .ok (.areturn, 1)) : W p l e R s m args below meth c H locs 0 0 (MQ below (ctQ G A w1 (some (.ref a))) args s 0 0 A) (F0 m pc ls [.ref a]) := by
  obtain ⟨hx, hb, hml, hown, hts, hr, hlocks, hA, hG⟩ := F
  exact W.aret hx hb hr (Or.inl ⟨C, rfl⟩) (Or.inr ⟨a, rfl⟩) (fun t ht hW => ⟨rfl, by rw [ht]; exact hP, hD, hS.F ht⟩) hS.2.2 hdg
/-- behind any call: the callee's world beside the rest, in the order that is asked for -/
theorem cl_go {wsw wc wr wd wn : va_W} {r0 : Option Value} {a : Array Value} (hP : va_P G.1 vwCl wsw H) (hD : va_D A wsw) (hS : va_S A s.heap H locs) (hA : ∀ q, s.heap.size ≤ q → A q) (isC isR is : List Nat) (hC : isC.map (fun i => wsw[i]?) = wc.map some) (hR : isR.map (fun i => wsw[i]?) = wr.map some) (hnR : va_nd isR = true) (hdis : ∀ i ∈ isR, i ∉ isC) (hnI : va_nd is = true) (hI : is.map (fun i => (wr ++ wd)[i]?) = wn.map some) (hst : r0.toList ++ rest = st1)
    (hr : va_Run p l e R s m args below meth c H locs 0 0 0 0 (F0 m pc ls st0) rest (ctQ G (va_A wc H.size) wd r0 a) (va_A wc H.size))
    (kk : ∀ (H1 : Heap) (locs1 : List Loc), va_P G.1 vwCl wn H1 → va_D A wn → va_S A s.heap H1 locs1 → W p l e R s m args below meth c H1 locs1 0 0 Q (F0 m (pc + 3) ls st1)) : W p l e R s m args below meth c H locs 0 0 Q (F0 m pc ls st0) := by
  intro T hT X
  have hFc := va_free (wc := wc) hD hS hA isC hC
  obtain ⟨v, st₀, t, T', L, h0, X', hL, e1, e2, ⟨hv, hP1, hD1, hz, hk⟩, st⟩ := hr T hT X
  cases hv
  rw [h0] at hz hk
  have hk1 : ∀ q : Nat, q < H.size → ¬ va_A wc H.size q → T'.heap[q]? = H[q]? := fun q h1 h2 => by rw [e1]; exact hk q h1 h2
  rw [← e1] at hP1
  obtain ⟨hP2, hD2⟩ := va_join hP hD isC isR hC hR hnR hdis hk1 hFc hP1 hD1
  have hP3 : va_P G.1 vwCl wn T'.heap := by
    intro k q hq
    have h1 : (is.map (fun i => (wr ++ wd)[i]?))[k]? = some (some q) := by rw [hI, List.getElem?_map, hq]; rfl
    rw [List.getElem?_map] at h1
    cases hi : is[k]? with
    | none => rw [hi] at h1; cases h1
    | some i => rw [hi] at h1; exact hP2 i q (Option.some.inj h1)
  have hD3 : va_D A wn := hD2.sub is hnI hI
  have hS3 : va_S A s.heap T'.heap (locs ++ L) := ⟨Nat.le_trans hS.1 (by rw [e1]; exact hz), fun q h1 h2 => by rw [hk1 q (Nat.lt_of_lt_of_le h1 hS.1) (fun z => h2 (hFc q z))]; exact hS.2.1 q h1 h2, fun q hq => by
      rcases List.mem_append.mp hq with h | h
      · exact hS.2.2 q h
      · exact hFc _ (hL q h)⟩
  obtain ⟨t2, a1, b1⟩ := kk T'.heap (locs ++ L) hP3 hD3 hS3 T' rfl X'
  rw [← hst] at a1
  exact ⟨t2, st t2 a1, b1⟩
theorem cl_pre {wsw wc : va_W} {av : List Value} (hP : va_P G.1 vwCl wsw H) (hD : va_D A wsw) (hS : va_S A s.heap H locs) (hA : ∀ q, s.heap.size ≤ q → A q) (hG : gx G A s s.heap) (isC : List Nat) (hnC : va_nd isC = true) (hC : isC.map (fun i => wsw[i]?) = wc.map some) : ∀ U : State, U.heap = H → s.WarmedH U.vm → ctP G av wc H.size av.toArray U := by
  intro U hU hW
  have hFc := va_free (wc := wc) hD hS hA isC hC
  refine ⟨rfl, by rw [hU], ?_, (hD.sub isC hnC hC).weaken (fun _ _ _ _ => trivial), by rw [hU]; exact hG.call hS hFc hW⟩
  rw [hU]
  intro k q hq
  have h1 : (isC.map (fun i => wsw[i]?))[k]? = some (some q) := by rw [hC, List.getElem?_map, hq]; rfl
  rw [List.getElem?_map] at h1
  cases hi : isC[k]? with
  | none => rw [hi] at h1; cases h1
  | some i => rw [hi] at h1; exact hP i q (Option.some.inj h1)
variable {y : MethodName} {ws : List Cond} {rm : Room} {index n maxL : Nat} {C : String} {bytes : ByteArray} {ret2 : Option FieldType} {wsw wc wd wn : va_W} {r0 : Option Value} {b : Nat} {As : List Value}
/-- a call of a method of an object -/
theorem cl_V {q0 ci : Nat} {fs : List Value} {qC : vw_C} (F : Cx p s m args meth c cc nL ret Ts own G A) (hP : va_P G.1 vwCl wsw H) (hD : va_D A wsw) (hS : va_S A s.heap H locs) (hM : Ct l y ws rm G (.ref b :: As) wc wd r0) (cw : CallW R s args own C index y bytes maxL ret2 ws rm 0 0 n) (isC isR is : List Nat) (hC : isC.map (fun i => wsw[i]?) = wc.map some) (hR : isR.map (fun i => wsw[i]?) = (isR.filterMap fun i => wsw[i]?).map some) (hnC : va_nd isC = true) (hnR : va_nd isR = true) (hdis : ∀ i ∈ isR, i ∉ isC) (hnI : va_nd is = true) (hI : is.map (fun i => ((isR.filterMap fun i => wsw[i]?) ++ wd)[i]?) = wn.map some) (hc : vwCl[ci]? = some qC) (hqC : qC.1 = C) (he : wsw[q0]? = some (b, .inr (ci, fs))) (hn : As.length = n) (hls : ls.size = nL) (hst0 : As.reverse ++ .ref b :: rest = st0) (hst : r0.toList ++ rest = st1) (hroom : (rest.map fun v => v.category).sum ≤ 8) (hdg : decode cc pc = .ok (.invokevirtual index, 3))
    (kk : ∀ (H1 : Heap) (locs1 : List Loc), va_P G.1 vwCl wn H1 → va_D A wn → va_S A s.heap H1 locs1 → W p l e R s m args below meth c H1 locs1 0 0 Q (F0 m (pc + 3) ls st1)) : W p l e R s m args below meth c H locs 0 0 Q (F0 m pc ls st0) := by
  obtain ⟨hx, hb, hml, hown, hts, hr, hlocks, hA, hG⟩ := F
  exact cl_go hP hD hS hA isC isR is hC hR hnR hdis hnI hI hst (va_runV ⟨hx, hb, hml, hown, hts⟩ (hM H.size) cw ⟨ctP_blind _ _ _ _, by rw [← hqC]; exact va_recv hG.1 hP hc he, cl_pre hP hD hS hA hG isC hnC hC⟩ rfl hn hls hst0.symm (lv_room hroom) hdg ⟨Nat.zero_le _, Nat.zero_le _⟩) kk
/-- a call of a static method -/
theorem cl_S (F : Cx p s m args meth c cc nL ret Ts own G A) (hP : va_P G.1 vwCl wsw H) (hD : va_D A wsw) (hS : va_S A s.heap H locs) (hM : Ct l y ws rm G As wc wd r0) (cw : CallB R s args own index y bytes maxL ret2 ws rm 0 0 n ∧ (Cond.static y).before args s = true) (isC isR is : List Nat) (hC : isC.map (fun i => wsw[i]?) = wc.map some) (hR : isR.map (fun i => wsw[i]?) = (isR.filterMap fun i => wsw[i]?).map some) (hnC : va_nd isC = true) (hnR : va_nd isR = true) (hdis : ∀ i ∈ isR, i ∉ isC) (hnI : va_nd is = true) (hI : is.map (fun i => ((isR.filterMap fun i => wsw[i]?) ++ wd)[i]?) = wn.map some) (hn : As.length = n) (hls : ls.size = nL) (hst0 : As.reverse ++ rest = st0) (hst : r0.toList ++ rest = st1) (hroom : (rest.map fun v => v.category).sum ≤ 8) (hdg : decode cc pc = .ok (.invokestatic index, 3))
    (kk : ∀ (H1 : Heap) (locs1 : List Loc), va_P G.1 vwCl wn H1 → va_D A wn → va_S A s.heap H1 locs1 → W p l e R s m args below meth c H1 locs1 0 0 Q (F0 m (pc + 3) ls st1)) : W p l e R s m args below meth c H locs 0 0 Q (F0 m pc ls st0) := by
  obtain ⟨hx, hb, hml, hown, hts, hr, hlocks, hA, hG⟩ := F
  exact cl_go hP hD hS hA isC isR is hC hR hnR hdis hnI hI hst (va_runS ⟨hx, hb, hml, hown, hts⟩ (hM H.size) cw ⟨ctP_blind _ _ _ _, cl_pre hP hD hS hA hG isC hnC hC⟩ rfl hn hls hst0.symm (lv_room hroom) hdg ⟨Nat.zero_le _, Nat.zero_le _⟩) kk
/-- a call of a private static method of a nest mate -/
theorem cl_SN {host : String} (F : Cx p s m args meth c cc nL ret Ts own G A) (hP : va_P G.1 vwCl wsw H) (hD : va_D A wsw) (hS : va_S A s.heap H locs) (hM : Ct l y ws rm G As wc wd r0) (cw : va_CN R s args own index y host bytes maxL ret2 ws rm 0 0 n ∧ (Cond.static y).before args s = true ∧ True) (isC isR is : List Nat) (hC : isC.map (fun i => wsw[i]?) = wc.map some) (hR : isR.map (fun i => wsw[i]?) = (isR.filterMap fun i => wsw[i]?).map some) (hnC : va_nd isC = true) (hnR : va_nd isR = true) (hdis : ∀ i ∈ isR, i ∉ isC) (hnI : va_nd is = true) (hI : is.map (fun i => ((isR.filterMap fun i => wsw[i]?) ++ wd)[i]?) = wn.map some) (hn : As.length = n) (hls : ls.size = nL) (hst0 : As.reverse ++ rest = st0) (hst : r0.toList ++ rest = st1) (hroom : (rest.map fun v => v.category).sum ≤ 8) (hdg : decode cc pc = .ok (.invokestatic index, 3))
    (kk : ∀ (H1 : Heap) (locs1 : List Loc), va_P G.1 vwCl wn H1 → va_D A wn → va_S A s.heap H1 locs1 → W p l e R s m args below meth c H1 locs1 0 0 Q (F0 m (pc + 3) ls st1)) : W p l e R s m args below meth c H locs 0 0 Q (F0 m pc ls st0) := by
  obtain ⟨hx, hb, hml, hown, hts, hr, hlocks, hA, hG⟩ := F
  exact cl_go hP hD hS hA isC isR is hC hR hnR hdis hnI hI hst (va_runSN ⟨hx, hb, hml, hown, hts⟩ (hM H.size) cw ⟨ctP_blind _ _ _ _, cl_pre hP hD hS hA hG isC hnC hC⟩ rfl hn hls hst0.symm (lv_room hroom) hdg ⟨Nat.zero_le _, Nat.zero_le _⟩) kk
end MY
