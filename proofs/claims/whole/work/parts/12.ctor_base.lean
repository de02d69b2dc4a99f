/-! ===== constructors: contracts that make cells ===== -/
def cnQ (G : GX) (A : Nat → Prop) (Post : va_W → Prop) : Array Value → State → Outcome → State → Prop := fun _ st oc t => oc = .returned none ∧ (∃ w1 : va_W, Post w1 ∧ va_P G.1 vwCl w1 t.heap ∧ va_D A w1) ∧ va_F A st t
def Cn (l : Launch) (y : MethodName) (ws : List Cond) (rm : Room) (G : GX) (av : List Value) (w0 : va_W) (Post : va_W → Prop) (k n : Nat) : Prop := ∀ sz : Nat, Met l y ws rm (ctP G av w0 sz) (cnQ G (va_A w0 sz) Post) k n (va_A w0 sz)
theorem Cn.of {l : Launch} {y : MethodName} {ws ws' : List Cond} {rm : Room} {G : GX} {av : List Value} {w0 : va_W} {Post : va_W → Prop} {k n : Nat} {cc : ByteArray} {nL : Nat} {ret : Option FieldType} {lv : List (Nat × Value)} (hy : plainName y.cls = true) (hw : ws = Cond.code y cc nL ret :: ws') (hn : (lg_sl av).length ≤ nL) (hlv : lv_args 0 av = lv)
    (body : ∀ (p : Program) (e : Env) (s : State) (m : MethodId) (below : List Frame) (meth : Method) (c : Code) (A : Nat → Prop) (ls : Array Slot), Cx p s m av.toArray meth c cc nL ret ws y.cls G A → meth.name = y.name → va_P G.1 vwCl w0 s.heap → va_D A w0 → lv_has ls nL lv →
      W p l e rm s m av.toArray below meth c s.heap [] 0 0 (MQ below (cnQ G A Post) av.toArray s k n A) (F0 m 0 ls [])) : Cn l y ws rm G av w0 Post k n := by
  intro sz
  refine Met.ofW (cc := cc) (maxL := nL) (ret := ret) hy hw ?_
  intro p e s m args below meth c s₁ B hml hv
  obtain ⟨rfl, hsz, hP, hD0, hG⟩ := hv
  have hts := atoms_spec (ws := ws) B.pre
  have hown : s.vm.findClass y.cls = some m.cls := findClass_of_methodNamed B.named
  subst hsz
  have hD := hD0.self (sz := s.heap.size)
  have hl := lv_entry av hn
  rw [lg_entry_eq]
  rw [hlv] at hl
  exact body p e s m below meth c (va_A w0 s.heap.size) _ ⟨B.exec, B.bytes, hml, hown, hts, B.returns, B.notSynchronized, fun q h => Or.inr h, hG⟩ (name_of_methodNamed B.named B.method).1 hP hD hl
section MYN
variable {p : Program} {l : Launch} {e : Env} {R : Room} {s : State} {m : MethodId} {args : Array Value} {below : List Frame} {meth : Method} {c : Code} {H : Heap} {locs : List Loc} {Q : State → Prop} {cells slots : Nat}
variable {cc : ByteArray} {nL : Nat} {ret : Option FieldType} {Ts : List Cond} {own : String} {G : GX} {A : Nat → Prop} {pc : Nat} {ls : Array Slot} {rest st0 st1 : List Value}
theorem rt_c {w1 : va_W} {Post : va_W → Prop} {k n : Nat} (C : Cx p s m args meth c cc nL none Ts own G A) (hk : cells ≤ k) (hn : slots ≤ n) (hq : Post w1) (hP : va_P G.1 vwCl w1 H) (hD : va_D A w1) (hS : va_S A s.heap H locs) (hdg : decode cc pc = .ok (.return_, 1)) : W p l e R s m args below meth c H locs cells slots (MQ below (cnQ G A Post) args s k n A) (F0 m pc ls []) := by
  obtain ⟨hx, hb, hml, hown, hts, hr, hlocks, hA, hG⟩ := C
  refine W.widen (k := k) (n := n) hk hn ?_
  exact W.vret hx hb hr (fun t ht hW => ⟨rfl, ⟨w1, hq, by rw [ht]; exact hP, hD⟩, hS.F ht⟩) hS.2.2 hdg
theorem nw_I {ws : va_W} (C : Cx p s m args meth c cc nL ret Ts own G A) (harr : (Cond.arrayClass .int).before args s = true) (hP : va_P G.1 vwCl ws H) (hD : va_D A ws) (hS : va_S A s.heap H locs) {n : Int32} {N : Nat} (hn : ¬ n < 0) (hN : n.toNatClampNeg = N) (hbytes : N * componentBytes .int ≤ 536870912) (hcells : cells + 1 ≤ R.cells) (hslots : slots + N ≤ R.slots) (hdg : decode cc pc = .ok (.newarray .int, 2))
    (kk : ∀ (q : Nat) (H1 : Heap), va_P G.1 vwCl (ws ++ [(q, .inl (G.2.1, N, .inl (fun _ => 0)))]) H1 → va_D A (ws ++ [(q, .inl (G.2.1, N, .inl (fun _ => 0)))]) → va_S A s.heap H1 locs → W p l e R s m args below meth c H1 locs (cells + 1) (slots + N) Q (F0 m (pc + 2) ls (.ref q :: rest))) : W p l e R s m args below meth c H locs cells slots Q (F0 m pc ls (.int n :: rest)) := by
  obtain ⟨hx, hb, hml, hown, hts, hr, hlocks, hA, hG⟩ := C
  refine va_newa (atype := .int) (ty := .int) (a0 := (N, .inl (fun _ => 0))) hx hb harr rfl hG.1 hP hD hS hA (fun cA => rfl) hn hN hbytes hcells hslots hdg (fun q cA H1 hK hP hD hS => ?_)
  have h1 := (hK.2 2 (cA, .int) rfl).2
  have h2 := (hG.1.2 0 (G.2.1, .int) rfl).2
  have he : cA = G.2.1 := Option.some.inj (h1.symm.trans h2)
  subst he
  exact kk q H1 hP hD hS
theorem nw_J {ws : va_W} (C : Cx p s m args meth c cc nL ret Ts own G A) (harr : (Cond.arrayClass .long).before args s = true) (hP : va_P G.1 vwCl ws H) (hD : va_D A ws) (hS : va_S A s.heap H locs) {n : Int32} {N : Nat} (hn : ¬ n < 0) (hN : n.toNatClampNeg = N) (hbytes : N * componentBytes .long ≤ 536870912) (hcells : cells + 1 ≤ R.cells) (hslots : slots + N ≤ R.slots) (hdg : decode cc pc = .ok (.newarray .long, 2))
    (kk : ∀ (q : Nat) (H1 : Heap), va_P G.1 vwCl (ws ++ [(q, .inl (G.2.2.1, N, .inr (.inl (fun _ => 0))))]) H1 → va_D A (ws ++ [(q, .inl (G.2.2.1, N, .inr (.inl (fun _ => 0))))]) → va_S A s.heap H1 locs → W p l e R s m args below meth c H1 locs (cells + 1) (slots + N) Q (F0 m (pc + 2) ls (.ref q :: rest))) : W p l e R s m args below meth c H locs cells slots Q (F0 m pc ls (.int n :: rest)) := by
  obtain ⟨hx, hb, hml, hown, hts, hr, hlocks, hA, hG⟩ := C
  refine va_newa (atype := .long) (ty := .long) (a0 := (N, .inr (.inl (fun _ => 0)))) hx hb harr rfl hG.1 hP hD hS hA (fun cA => rfl) hn hN hbytes hcells hslots hdg (fun q cA H1 hK hP hD hS => ?_)
  have h1 := (hK.2 2 (cA, .long) rfl).2
  have h2 := (hG.1.2 1 (G.2.2.1, .long) rfl).2
  have he : cA = G.2.2.1 := Option.some.inj (h1.symm.trans h2)
  subst he
  exact kk q H1 hP hD hS
theorem cn_go {wsw wc : va_W} {Post : va_W → Prop} {a : Array Value} {k n : Nat} (hP : va_P G.1 vwCl wsw H) (hD : va_D A wsw) (hS : va_S A s.heap H locs) (hA : ∀ q, s.heap.size ≤ q → A q) (isC isR : List Nat) (hC : isC.map (fun i => wsw[i]?) = wc.map some) (hR : isR.map (fun i => wsw[i]?) = (isR.filterMap fun i => wsw[i]?).map some) (hnR : va_nd isR = true) (hdis : ∀ i ∈ isR, i ∉ isC)
    (hr : va_Run p l e R s m args below meth c H locs cells slots k n (F0 m pc ls st0) rest (cnQ G (va_A wc H.size) Post a) (va_A wc H.size))
    (kk : ∀ (w1 : va_W) (H1 : Heap) (locs1 : List Loc), Post w1 → va_P G.1 vwCl ((isR.filterMap fun i => wsw[i]?) ++ w1) H1 → va_D A ((isR.filterMap fun i => wsw[i]?) ++ w1) → va_S A s.heap H1 locs1 → W p l e R s m args below meth c H1 locs1 (cells + k) (slots + n) Q (F0 m (pc + 3) ls rest)) : W p l e R s m args below meth c H locs cells slots Q (F0 m pc ls st0) := by
  intro T hT X
  have hFc := va_free (wc := wc) hD hS hA isC hC
  obtain ⟨v, st₀, t, T', L, h0, X', hL, e1, e2, ⟨hv, ⟨w1, hq, hP1, hD1⟩, hz, hk⟩, st⟩ := hr T hT X
  cases hv
  rw [h0] at hz hk
  have hk1 : ∀ q : Nat, q < H.size → ¬ va_A wc H.size q → T'.heap[q]? = H[q]? := fun q h1 h2 => by rw [e1]; exact hk q h1 h2
  rw [← e1] at hP1
  obtain ⟨hP2, hD2⟩ := va_join hP hD isC isR hC hR hnR hdis hk1 hFc hP1 hD1
  have hS3 : va_S A s.heap T'.heap (locs ++ L) := ⟨Nat.le_trans hS.1 (by rw [e1]; exact hz), fun q h1 h2 => by rw [hk1 q (Nat.lt_of_lt_of_le h1 hS.1) (fun z => h2 (hFc q z))]; exact hS.2.1 q h1 h2, fun q hq => by
      rcases List.mem_append.mp hq with h | h
      · exact hS.2.2 q h
      · exact hFc _ (hL q h)⟩
  obtain ⟨t2, a1, b1⟩ := kk w1 T'.heap (locs ++ L) hq hP2 hD2 hS3 T' rfl X'
  exact ⟨t2, st t2 a1, b1⟩
variable {y : MethodName} {ws : List Cond} {rm : Room} {index n maxL mk ms : Nat} {bytes : ByteArray} {wsw wc : va_W} {Post : va_W → Prop} {b : Nat} {As : List Value}
theorem cl_I (F : Cx p s m args meth c cc nL ret Ts own G A) (hP : va_P G.1 vwCl wsw H) (hD : va_D A wsw) (hS : va_S A s.heap H locs) (hM : Cn l y ws rm G (.ref b :: As) wc Post mk ms) (cw : CallB R s args own index y bytes maxL none ws rm mk ms n ∧ y.name = "<init>" ∧ (Cond.instanceMethod y).before args s = true) (isC isR : List Nat) (hC : isC.map (fun i => wsw[i]?) = wc.map some) (hR : isR.map (fun i => wsw[i]?) = (isR.filterMap fun i => wsw[i]?).map some) (hnC : va_nd isC = true) (hnR : va_nd isR = true) (hdis : ∀ i ∈ isR, i ∉ isC) (hn : As.length = n) (hls : ls.size = nL) (hst0 : As.reverse ++ .ref b :: rest = st0) (hroom : (rest.map fun v => v.category).sum ≤ 8) (hdg : decode cc pc = .ok (.invokespecial index, 3)) (hf : cells + mk ≤ R.cells ∧ slots + ms ≤ R.slots)
    (kk : ∀ (w1 : va_W) (H1 : Heap) (locs1 : List Loc), Post w1 → va_P G.1 vwCl ((isR.filterMap fun i => wsw[i]?) ++ w1) H1 → va_D A ((isR.filterMap fun i => wsw[i]?) ++ w1) → va_S A s.heap H1 locs1 → W p l e R s m args below meth c H1 locs1 (cells + mk) (slots + ms) Q (F0 m (pc + 3) ls rest)) : W p l e R s m args below meth c H locs cells slots Q (F0 m pc ls st0) := by
  obtain ⟨hx, hb, hml, hown, hts, hr, hlocks, hA, hG⟩ := F
  exact cn_go hP hD hS hA isC isR hC hR hnR hdis (va_runI ⟨hx, hb, hml, hown, hts⟩ (hM H.size) cw ⟨ctP_blind _ _ _ _, cl_pre hP hD hS hA hG isC hnC hC⟩ rfl hn hls hst0.symm (lv_room hroom) hdg hf) kk
theorem cl_IN {host : String} (F : Cx p s m args meth c cc nL ret Ts own G A) (hP : va_P G.1 vwCl wsw H) (hD : va_D A wsw) (hS : va_S A s.heap H locs) (hM : Cn l y ws rm G (.ref b :: As) wc Post mk ms) (cw : va_CN R s args own index y host bytes maxL none ws rm mk ms n ∧ y.name = "<init>" ∧ (Cond.instanceMethod y).before args s = true) (isC isR : List Nat) (hC : isC.map (fun i => wsw[i]?) = wc.map some) (hR : isR.map (fun i => wsw[i]?) = (isR.filterMap fun i => wsw[i]?).map some) (hnC : va_nd isC = true) (hnR : va_nd isR = true) (hdis : ∀ i ∈ isR, i ∉ isC) (hn : As.length = n) (hls : ls.size = nL) (hst0 : As.reverse ++ .ref b :: rest = st0) (hroom : (rest.map fun v => v.category).sum ≤ 8) (hdg : decode cc pc = .ok (.invokespecial index, 3)) (hf : cells + mk ≤ R.cells ∧ slots + ms ≤ R.slots)
    (kk : ∀ (w1 : va_W) (H1 : Heap) (locs1 : List Loc), Post w1 → va_P G.1 vwCl ((isR.filterMap fun i => wsw[i]?) ++ w1) H1 → va_D A ((isR.filterMap fun i => wsw[i]?) ++ w1) → va_S A s.heap H1 locs1 → W p l e R s m args below meth c H1 locs1 (cells + mk) (slots + ms) Q (F0 m (pc + 3) ls rest)) : W p l e R s m args below meth c H locs cells slots Q (F0 m pc ls st0) := by
  obtain ⟨hx, hb, hml, hown, hts, hr, hlocks, hA, hG⟩ := F
  exact cn_go hP hD hS hA isC isR hC hR hnR hdis (va_runIN ⟨hx, hb, hml, hown, hts⟩ (hM H.size) cw ⟨ctP_blind _ _ _ _, cl_pre hP hD hS hA hG isC hnC hC⟩ rfl hn hls hst0.symm (lv_room hroom) hdg hf) kk
end MYN
