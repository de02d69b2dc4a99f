section
-- ===== PART A: goes FIRST, ahead of the names: the tables' words, and 'selects' of the private methods out of them =====
/-- a private method of a class that the tables say can be made, by its rows of tables_1 -/
def lw_okq (q : MethodName × Nat) : Prop := (q.1.cls ≠ "java/lang/invoke/MethodHandle" ∧ q.1.cls ≠ "java/lang/invoke/VarHandle") ∧ Cond.instantiable q.1.cls q.2 ∈ tables_1 ∧ Cond.privateMethod q.1 ∈ tables_1 ∧ Cond.instanceMethod q.1 ∈ tables_1
theorem lw_p0 : lw_okq (⟨"SchubertDesk", "fitCell", "(I)I"⟩, 8) := ⟨⟨by decide +kernel, by decide +kernel⟩, List.mem_of_getElem? (i := 13) (by decide +kernel), List.mem_of_getElem? (i := 250) (by decide +kernel), List.mem_of_getElem? (i := 251) (by decide +kernel)⟩
theorem lw_p1 : lw_okq (⟨"SchubertDesk$Single", "climb", "()I"⟩, 4) := ⟨⟨by decide +kernel, by decide +kernel⟩, List.mem_of_getElem? (i := 62) (by decide +kernel), List.mem_of_getElem? (i := 272) (by decide +kernel), List.mem_of_getElem? (i := 273) (by decide +kernel)⟩
theorem lw_p2 : lw_okq (⟨"SchubertDesk$Single", "firstRise", "()I"⟩, 4) := ⟨⟨by decide +kernel, by decide +kernel⟩, List.mem_of_getElem? (i := 62) (by decide +kernel), List.mem_of_getElem? (i := 276) (by decide +kernel), List.mem_of_getElem? (i := 277) (by decide +kernel)⟩
theorem lw_p3 : lw_okq (⟨"SchubertDesk$Single", "exchangeAt", "(I)V"⟩, 4) := ⟨⟨by decide +kernel, by decide +kernel⟩, List.mem_of_getElem? (i := 62) (by decide +kernel), List.mem_of_getElem? (i := 280) (by decide +kernel), List.mem_of_getElem? (i := 281) (by decide +kernel)⟩
theorem lw_p4 : lw_okq (⟨"SchubertDesk$Grid", "lowerDegree", "(II)V"⟩, 2) := ⟨⟨by decide +kernel, by decide +kernel⟩, List.mem_of_getElem? (i := 48) (by decide +kernel), List.mem_of_getElem? (i := 301) (by decide +kernel), List.mem_of_getElem? (i := 302) (by decide +kernel)⟩
theorem lw_p5 : lw_okq (⟨"SchubertDesk$Grid", "lowerLine", "(III)V"⟩, 2) := ⟨⟨by decide +kernel, by decide +kernel⟩, List.mem_of_getElem? (i := 48) (by decide +kernel), List.mem_of_getElem? (i := 307) (by decide +kernel), List.mem_of_getElem? (i := 308) (by decide +kernel)⟩
theorem lw_p6 : lw_okq (⟨"SchubertDesk$Grid", "put", "(IJ)V"⟩, 2) := ⟨⟨by decide +kernel, by decide +kernel⟩, List.mem_of_getElem? (i := 48) (by decide +kernel), List.mem_of_getElem? (i := 324) (by decide +kernel), List.mem_of_getElem? (i := 325) (by decide +kernel)⟩
theorem lw_p7 : lw_okq (⟨"SchubertDesk$Grid", "valueOfLine", "(II)J"⟩, 2) := ⟨⟨by decide +kernel, by decide +kernel⟩, List.mem_of_getElem? (i := 48) (by decide +kernel), List.mem_of_getElem? (i := 350) (by decide +kernel), List.mem_of_getElem? (i := 351) (by decide +kernel)⟩
theorem lw_p8 : lw_okq (⟨"SchubertDesk", "takeDraft", "()I"⟩, 8) := ⟨⟨by decide +kernel, by decide +kernel⟩, List.mem_of_getElem? (i := 13) (by decide +kernel), List.mem_of_getElem? (i := 378) (by decide +kernel), List.mem_of_getElem? (i := 379) (by decide +kernel)⟩
theorem lw_p9 : lw_okq (⟨"SchubertDesk", "isMadeBy", "(LSchubertDesk$Digits;I)Z"⟩, 8) := ⟨⟨by decide +kernel, by decide +kernel⟩, List.mem_of_getElem? (i := 13) (by decide +kernel), List.mem_of_getElem? (i := 477) (by decide +kernel), List.mem_of_getElem? (i := 478) (by decide +kernel)⟩
theorem lw_p10 : lw_okq (⟨"SchubertDesk", "putLadder", "(III)V"⟩, 8) := ⟨⟨by decide +kernel, by decide +kernel⟩, List.mem_of_getElem? (i := 13) (by decide +kernel), List.mem_of_getElem? (i := 490) (by decide +kernel), List.mem_of_getElem? (i := 491) (by decide +kernel)⟩
theorem lw_p11 : lw_okq (⟨"SchubertDesk", "putExchanged", "(LSchubertDesk$Digits;III)V"⟩, 8) := ⟨⟨by decide +kernel, by decide +kernel⟩, List.mem_of_getElem? (i := 13) (by decide +kernel), List.mem_of_getElem? (i := 508) (by decide +kernel), List.mem_of_getElem? (i := 509) (by decide +kernel)⟩
theorem lw_p12 : lw_okq (⟨"SchubertDesk$Digits", "leastAhead", "(I)I"⟩, 1) := ⟨⟨by decide +kernel, by decide +kernel⟩, List.mem_of_getElem? (i := 21) (by decide +kernel), List.mem_of_getElem? (i := 533) (by decide +kernel), List.mem_of_getElem? (i := 534) (by decide +kernel)⟩
theorem lw_p13 : lw_okq (⟨"SchubertDesk$Digits", "hasFallAhead", "(II)Z"⟩, 1) := ⟨⟨by decide +kernel, by decide +kernel⟩, List.mem_of_getElem? (i := 21) (by decide +kernel), List.mem_of_getElem? (i := 542) (by decide +kernel), List.mem_of_getElem? (i := 543) (by decide +kernel)⟩
theorem lw_p14 : lw_okq (⟨"SchubertDeskModel", "laysCode", "(IIII[I)V"⟩, 16) := ⟨⟨by decide +kernel, by decide +kernel⟩, List.mem_of_getElem? (i := 547) (by decide +kernel), List.mem_of_getElem? (i := 649) (by decide +kernel), List.mem_of_getElem? (i := 650) (by decide +kernel)⟩
theorem lw_p15 : lw_okq (⟨"SchubertDeskModel", "findWays", "(I)V"⟩, 16) := ⟨⟨by decide +kernel, by decide +kernel⟩, List.mem_of_getElem? (i := 547) (by decide +kernel), List.mem_of_getElem? (i := 667) (by decide +kernel), List.mem_of_getElem? (i := 668) (by decide +kernel)⟩
def lw_privs_1 : List (MethodName × Nat) := [(⟨"SchubertDesk", "fitCell", "(I)I"⟩, 8), (⟨"SchubertDesk$Single", "climb", "()I"⟩, 4), (⟨"SchubertDesk$Single", "firstRise", "()I"⟩, 4), (⟨"SchubertDesk$Single", "exchangeAt", "(I)V"⟩, 4), (⟨"SchubertDesk$Grid", "lowerDegree", "(II)V"⟩, 2), (⟨"SchubertDesk$Grid", "lowerLine", "(III)V"⟩, 2), (⟨"SchubertDesk$Grid", "put", "(IJ)V"⟩, 2), (⟨"SchubertDesk$Grid", "valueOfLine", "(II)J"⟩, 2), (⟨"SchubertDesk", "takeDraft", "()I"⟩, 8), (⟨"SchubertDesk", "isMadeBy", "(LSchubertDesk$Digits;I)Z"⟩, 8), (⟨"SchubertDesk", "putLadder", "(III)V"⟩, 8), (⟨"SchubertDesk", "putExchanged", "(LSchubertDesk$Digits;III)V"⟩, 8), (⟨"SchubertDesk$Digits", "leastAhead", "(I)I"⟩, 1), (⟨"SchubertDesk$Digits", "hasFallAhead", "(II)Z"⟩, 1), (⟨"SchubertDeskModel", "laysCode", "(IIII[I)V"⟩, 16), (⟨"SchubertDeskModel", "findWays", "(I)V"⟩, 16)]
theorem lw_r1 : ∀ q ∈ lw_privs_1, lw_okq q := List.forall_mem_cons.mpr ⟨lw_p0, List.forall_mem_cons.mpr ⟨lw_p1, List.forall_mem_cons.mpr ⟨lw_p2, List.forall_mem_cons.mpr ⟨lw_p3, List.forall_mem_cons.mpr ⟨lw_p4, List.forall_mem_cons.mpr ⟨lw_p5, List.forall_mem_cons.mpr ⟨lw_p6, List.forall_mem_cons.mpr ⟨lw_p7, List.forall_mem_cons.mpr ⟨lw_p8, List.forall_mem_cons.mpr ⟨lw_p9, List.forall_mem_cons.mpr ⟨lw_p10, List.forall_mem_cons.mpr ⟨lw_p11, List.forall_mem_cons.mpr ⟨lw_p12, List.forall_mem_cons.mpr ⟨lw_p13, List.forall_mem_cons.mpr ⟨lw_p14, List.forall_mem_cons.mpr ⟨lw_p15, fun _ h => absurd h List.not_mem_nil⟩⟩⟩⟩⟩⟩⟩⟩⟩⟩⟩⟩⟩⟩⟩⟩
theorem lw_p16 : lw_okq (⟨"SchubertDeskModel", "laysSmall", "(I)V"⟩, 16) := ⟨⟨by decide +kernel, by decide +kernel⟩, List.mem_of_getElem? (i := 547) (by decide +kernel), List.mem_of_getElem? (i := 671) (by decide +kernel), List.mem_of_getElem? (i := 672) (by decide +kernel)⟩
theorem lw_p17 : lw_okq (⟨"SchubertDeskModel", "findS", "([I)V"⟩, 16) := ⟨⟨by decide +kernel, by decide +kernel⟩, List.mem_of_getElem? (i := 547) (by decide +kernel), List.mem_of_getElem? (i := 688) (by decide +kernel), List.mem_of_getElem? (i := 689) (by decide +kernel)⟩
theorem lw_p18 : lw_okq (⟨"SchubertDeskModel", "differs", "([JI)V"⟩, 16) := ⟨⟨by decide +kernel, by decide +kernel⟩, List.mem_of_getElem? (i := 547) (by decide +kernel), List.mem_of_getElem? (i := 695) (by decide +kernel), List.mem_of_getElem? (i := 696) (by decide +kernel)⟩
theorem lw_p19 : lw_okq (⟨"SchubertDeskModel", "becomes", "()I"⟩, 16) := ⟨⟨by decide +kernel, by decide +kernel⟩, List.mem_of_getElem? (i := 547) (by decide +kernel), List.mem_of_getElem? (i := 734) (by decide +kernel), List.mem_of_getElem? (i := 735) (by decide +kernel)⟩
theorem lw_p20 : lw_okq (⟨"SchubertDeskModel", "findProduct", "()V"⟩, 16) := ⟨⟨by decide +kernel, by decide +kernel⟩, List.mem_of_getElem? (i := 547) (by decide +kernel), List.mem_of_getElem? (i := 744) (by decide +kernel), List.mem_of_getElem? (i := 745) (by decide +kernel)⟩
theorem lw_p21 : lw_okq (⟨"SchubertDeskModel", "keeps", "()Z"⟩, 16) := ⟨⟨by decide +kernel, by decide +kernel⟩, List.mem_of_getElem? (i := 547) (by decide +kernel), List.mem_of_getElem? (i := 751) (by decide +kernel), List.mem_of_getElem? (i := 752) (by decide +kernel)⟩
theorem lw_p22 : lw_okq (⟨"SchubertDeskModel", "knowsParts", "()V"⟩, 16) := ⟨⟨by decide +kernel, by decide +kernel⟩, List.mem_of_getElem? (i := 547) (by decide +kernel), List.mem_of_getElem? (i := 767) (by decide +kernel), List.mem_of_getElem? (i := 768) (by decide +kernel)⟩
theorem lw_p23 : lw_okq (⟨"SchubertDeskModel", "findParts", "()V"⟩, 16) := ⟨⟨by decide +kernel, by decide +kernel⟩, List.mem_of_getElem? (i := 547) (by decide +kernel), List.mem_of_getElem? (i := 771) (by decide +kernel), List.mem_of_getElem? (i := 772) (by decide +kernel)⟩
theorem lw_p24 : lw_okq (⟨"SchubertDeskModel", "adds", "(IJ)V"⟩, 16) := ⟨⟨by decide +kernel, by decide +kernel⟩, List.mem_of_getElem? (i := 547) (by decide +kernel), List.mem_of_getElem? (i := 775) (by decide +kernel), List.mem_of_getElem? (i := 776) (by decide +kernel)⟩
theorem lw_p25 : lw_okq (⟨"SchubertDeskModel", "areTight", "(I)Z"⟩, 16) := ⟨⟨by decide +kernel, by decide +kernel⟩, List.mem_of_getElem? (i := 547) (by decide +kernel), List.mem_of_getElem? (i := 787) (by decide +kernel), List.mem_of_getElem? (i := 788) (by decide +kernel)⟩
theorem lw_p26 : lw_okq (⟨"SchubertDeskModel", "climbs", "(III)V"⟩, 16) := ⟨⟨by decide +kernel, by decide +kernel⟩, List.mem_of_getElem? (i := 547) (by decide +kernel), List.mem_of_getElem? (i := 808) (by decide +kernel), List.mem_of_getElem? (i := 809) (by decide +kernel)⟩
theorem lw_p27 : lw_okq (⟨"SchubertDeskModel", "finds", "(I)V"⟩, 16) := ⟨⟨by decide +kernel, by decide +kernel⟩, List.mem_of_getElem? (i := 547) (by decide +kernel), List.mem_of_getElem? (i := 815) (by decide +kernel), List.mem_of_getElem? (i := 816) (by decide +kernel)⟩
theorem lw_p28 : lw_okq (⟨"SchubertDeskModel", "foundBy", "(I)I"⟩, 16) := ⟨⟨by decide +kernel, by decide +kernel⟩, List.mem_of_getElem? (i := 547) (by decide +kernel), List.mem_of_getElem? (i := 819) (by decide +kernel), List.mem_of_getElem? (i := 820) (by decide +kernel)⟩
def lw_privs_2 : List (MethodName × Nat) := [(⟨"SchubertDeskModel", "laysSmall", "(I)V"⟩, 16), (⟨"SchubertDeskModel", "findS", "([I)V"⟩, 16), (⟨"SchubertDeskModel", "differs", "([JI)V"⟩, 16), (⟨"SchubertDeskModel", "becomes", "()I"⟩, 16), (⟨"SchubertDeskModel", "findProduct", "()V"⟩, 16), (⟨"SchubertDeskModel", "keeps", "()Z"⟩, 16), (⟨"SchubertDeskModel", "knowsParts", "()V"⟩, 16), (⟨"SchubertDeskModel", "findParts", "()V"⟩, 16), (⟨"SchubertDeskModel", "adds", "(IJ)V"⟩, 16), (⟨"SchubertDeskModel", "areTight", "(I)Z"⟩, 16), (⟨"SchubertDeskModel", "climbs", "(III)V"⟩, 16), (⟨"SchubertDeskModel", "finds", "(I)V"⟩, 16), (⟨"SchubertDeskModel", "foundBy", "(I)I"⟩, 16)]
theorem lw_r2 : ∀ q ∈ lw_privs_2, lw_okq q := List.forall_mem_cons.mpr ⟨lw_p16, List.forall_mem_cons.mpr ⟨lw_p17, List.forall_mem_cons.mpr ⟨lw_p18, List.forall_mem_cons.mpr ⟨lw_p19, List.forall_mem_cons.mpr ⟨lw_p20, List.forall_mem_cons.mpr ⟨lw_p21, List.forall_mem_cons.mpr ⟨lw_p22, List.forall_mem_cons.mpr ⟨lw_p23, List.forall_mem_cons.mpr ⟨lw_p24, List.forall_mem_cons.mpr ⟨lw_p25, List.forall_mem_cons.mpr ⟨lw_p26, List.forall_mem_cons.mpr ⟨lw_p27, List.forall_mem_cons.mpr ⟨lw_p28, fun _ h => absurd h List.not_mem_nil⟩⟩⟩⟩⟩⟩⟩⟩⟩⟩⟩⟩⟩
def lw_privs : List (MethodName × Nat) := lw_privs_1 ++ (lw_privs_2)
def lw_tbl : List Cond := k2_sels lw_privs ++ tables_1
theorem lw_privs_ok : ∀ q ∈ lw_privs, lw_okq q := by
  show ∀ q ∈ lw_privs_1 ++ (lw_privs_2), lw_okq q
  exact List.forall_mem_append.mpr ⟨lw_r1, lw_r2⟩
end
section
/-! ===== BEGIN words of one list among another's, by their places ===== -/
theorem goodIn_r {big : List Cond} (ws : List Cond) (ps : List Nat) (hp : ws = ps.filterMap (fun i => big[i]?)) (h : ws.all goodWord = true) : GoodIn big ws := by
  intro w hw
  have h1 := List.all_eq_true.mp h w hw
  rw [hp] at hw
  obtain ⟨i, -, hi⟩ := List.mem_filterMap.mp hw
  have hm : w ∈ big := by first | exact List.mem_of_getElem? hi | exact List.getElem?_mem hi
  exact ⟨hm, good_of_word h1⟩
theorem goodIn_app {big a b : List Cond} (ha : GoodIn big a) (hb : GoodIn big b) : GoodIn big (a ++ b) := fun w h => (List.mem_append.mp h).elim (ha w) (hb w)
theorem goodIn_ca {big a b : List Cond} {c : Cond} (ha : GoodIn big (c :: a)) (hb : GoodIn big b) : GoodIn big (c :: (a ++ b)) := fun w h => (List.mem_cons.mp h).elim (fun e => ha w (List.mem_cons.mpr (Or.inl e))) (fun h => (List.mem_append.mp h).elim (fun h => ha w (List.mem_cons.mpr (Or.inr h))) (hb w))
theorem goodIn_sub {big ws : List Cond} (hm : ∀ w ∈ ws, w ∈ big) (h : ws.all goodWord = true) : GoodIn big ws := fun w hw => ⟨hm w hw, good_of_word (List.all_eq_true.mp h w hw)⟩
/-! ===== END ===== -/

/-! ===== BEGIN printed: names, fields, word lists, decode rows ===== -/
def RX0 : String := "SchubertDesk$Ascending"
def TX0 : u_T := fun k => match k with
  | 0 => ("SchubertDesk$Ascending", "items", "[I", true)
  | _ => ("SchubertDesk$Ascending", "size", "I", false)
def tyX0 : Nat → FieldType := fun k => match k with
  | 0 => .array .int
  | _ => .int
abbrev wsX00 : List Cond := u_ws RX0 TX0 2
theorem nmX0 : ∀ a, a < 2 → ∀ b, b < 2 → a ≠ b → (TX0 a).2.1 ≠ (TX0 b).2.1 := by decide +kernel
theorem tyX0_ok : ∀ k, k < 2 → parseFieldDescriptor (TX0 k).2.2.1 = some (tyX0 k) := by decide +kernel
abbrev cX0_init : ByteArray := prog_2_method_1_code
def yX0_init : MethodName := ⟨RX0, "<init>", "(I)V"⟩
abbrev cX0_clear : ByteArray := prog_2_method_2_code
def yX0_clear : MethodName := ⟨RX0, "clear", "()V"⟩
abbrev cX0_put : ByteArray := prog_2_method_3_code
def yX0_put : MethodName := ⟨RX0, "put", "(I)V"⟩
abbrev cX0_answer : ByteArray := prog_2_method_4_code
def yX0_answer : MethodName := ⟨RX0, "answer", "(I)I"⟩
def RX1 : String := "SchubertDesk$Digits"
def TX1 : u_T := fun k => match k with
  | _ => ("SchubertDesk$Digits", "row", "[I", true)
def tyX1 : Nat → FieldType := fun k => match k with
  | _ => .array .int
abbrev wsX10 : List Cond := u_ws RX1 TX1 1
theorem nmX1 : ∀ a, a < 1 → ∀ b, b < 1 → a ≠ b → (TX1 a).2.1 ≠ (TX1 b).2.1 := by decide +kernel
theorem tyX1_ok : ∀ k, k < 1 → parseFieldDescriptor (TX1 k).2.2.1 = some (tyX1 k) := by decide +kernel
abbrev cX1_init : ByteArray := prog_3_method_1_code
def yX1_init : MethodName := ⟨RX1, "<init>", "()V"⟩
abbrev cX1_read : ByteArray := prog_3_method_2_code
def yX1_read : MethodName := ⟨RX1, "read", "(I)Z"⟩
abbrev cX1_stayInPlace : ByteArray := prog_3_method_3_code
def yX1_stayInPlace : MethodName := ⟨RX1, "stayInPlace", "()V"⟩
abbrev cX1_digit : ByteArray := prog_3_method_4_code
def yX1_digit : MethodName := ⟨RX1, "digit", "(I)I"⟩
abbrev cX1_put : ByteArray := prog_3_method_5_code
def yX1_put : MethodName := ⟨RX1, "put", "(II)V"⟩
abbrev cX1_exchange : ByteArray := prog_3_method_6_code
def yX1_exchange : MethodName := ⟨RX1, "exchange", "(II)V"⟩
abbrev cX1_isSame : ByteArray := prog_3_method_7_code
def yX1_isSame : MethodName := ⟨RX1, "isSame", "(LSchubertDesk$Digits;)Z"⟩
abbrev cX1_becomeInverse : ByteArray := prog_3_method_8_code
def yX1_becomeInverse : MethodName := ⟨RX1, "becomeInverse", "(LSchubertDesk$Digits;)V"⟩
abbrev cX1_becomeProduct : ByteArray := prog_3_method_9_code
def yX1_becomeProduct : MethodName := ⟨RX1, "becomeProduct", "(LSchubertDesk$Digits;LSchubertDesk$Digits;)V"⟩
abbrev cX1_becomeOfCode : ByteArray := prog_3_method_10_code
def yX1_becomeOfCode : MethodName := ⟨RX1, "becomeOfCode", "(I)V"⟩
abbrev cX1_unusedAbove : ByteArray := prog_3_method_11_code
def yX1_unusedAbove : MethodName := ⟨RX1, "unusedAbove", "(II)I"⟩
abbrev cX1_becomeMade : ByteArray := prog_3_method_12_code
def yX1_becomeMade : MethodName := ⟨RX1, "becomeMade", "(I)V"⟩
abbrev cX1_plainCount : ByteArray := prog_3_method_13_code
def yX1_plainCount : MethodName := ⟨RX1, "plainCount", "()I"⟩
abbrev cX1_plainNumber : ByteArray := prog_3_method_14_code
def yX1_plainNumber : MethodName := ⟨RX1, "plainNumber", "()I"⟩
abbrev cX1_isSmall : ByteArray := prog_3_method_15_code
def yX1_isSmall : MethodName := ⟨RX1, "isSmall", "()Z"⟩
abbrev cX1_codeAt : ByteArray := prog_3_method_16_code
def yX1_codeAt : MethodName := ⟨RX1, "codeAt", "(I)I"⟩
abbrev cX1_inversions : ByteArray := prog_3_method_17_code
def yX1_inversions : MethodName := ⟨RX1, "inversions", "()I"⟩
abbrev cX1_codeCell : ByteArray := prog_3_method_18_code
def yX1_codeCell : MethodName := ⟨RX1, "codeCell", "()I"⟩
abbrev cX1_descentSet : ByteArray := prog_3_method_19_code
def yX1_descentSet : MethodName := ⟨RX1, "descentSet", "()I"⟩
abbrev cX1_isFit : ByteArray := prog_3_method_20_code
def yX1_isFit : MethodName := ⟨RX1, "isFit", "()Z"⟩
abbrev cX1_lastDescent : ByteArray := prog_3_method_21_code
def yX1_lastDescent : MethodName := ⟨RX1, "lastDescent", "()I"⟩
abbrev cX1_lastLessThan : ByteArray := prog_3_method_22_code
def yX1_lastLessThan : MethodName := ⟨RX1, "lastLessThan", "(I)I"⟩
abbrev cX1_isBelow : ByteArray := prog_3_method_23_code
def yX1_isBelow : MethodName := ⟨RX1, "isBelow", "(LSchubertDesk$Digits;)Z"⟩
abbrev cX1_hasLeastGreatestMiddle : ByteArray := prog_3_method_24_code
def yX1_hasLeastGreatestMiddle : MethodName := ⟨RX1, "hasLeastGreatestMiddle", "()Z"⟩
abbrev cX1_leastAhead : ByteArray := prog_3_method_25_code
def yX1_leastAhead : MethodName := ⟨RX1, "leastAhead", "(I)I"⟩
abbrev cX1_hasTwoOneFourThree : ByteArray := prog_3_method_26_code
def yX1_hasTwoOneFourThree : MethodName := ⟨RX1, "hasTwoOneFourThree", "()Z"⟩
abbrev cX1_hasFallAhead : ByteArray := prog_3_method_27_code
def yX1_hasFallAhead : MethodName := ⟨RX1, "hasFallAhead", "(II)Z"⟩
def RX2 : String := "SchubertDesk$Grid"
def TX2 : u_T := fun k => match k with
  | 0 => ("SchubertDesk$Grid", "cell", "[J", true)
  | _ => ("SchubertDesk$Grid", "top", "[I", true)
def tyX2 : Nat → FieldType := fun k => match k with
  | 0 => .array .long
  | _ => .array .int
abbrev wsX20 : List Cond := u_ws RX2 TX2 2
theorem nmX2 : ∀ a, a < 2 → ∀ b, b < 2 → a ≠ b → (TX2 a).2.1 ≠ (TX2 b).2.1 := by decide +kernel
theorem tyX2_ok : ∀ k, k < 2 → parseFieldDescriptor (TX2 k).2.2.1 = some (tyX2 k) := by decide +kernel
abbrev cX2_init : ByteArray := prog_4_method_1_code
def yX2_init : MethodName := ⟨RX2, "<init>", "()V"⟩
abbrev cX2_at : ByteArray := prog_4_method_2_code
def yX2_at : MethodName := ⟨RX2, "at", "(I)J"⟩
abbrev cX2_clear : ByteArray := prog_4_method_3_code
def yX2_clear : MethodName := ⟨RX2, "clear", "()V"⟩
abbrev cX2_copy : ByteArray := prog_4_method_4_code
def yX2_copy : MethodName := ⟨RX2, "copy", "(LSchubertDesk$Grid;)V"⟩
abbrev cX2_filled : ByteArray := prog_4_method_5_code
def yX2_filled : MethodName := ⟨RX2, "filled", "()I"⟩
abbrev cX2_isWithinLimit : ByteArray := prog_4_method_6_code
def yX2_isWithinLimit : MethodName := ⟨RX2, "isWithinLimit", "()Z"⟩
abbrev cX2_addTimes : ByteArray := prog_4_method_7_code
def yX2_addTimes : MethodName := ⟨RX2, "addTimes", "(JLSchubertDesk$Grid;I)V"⟩
abbrev cX2_becomeMonomial : ByteArray := prog_4_method_8_code
def yX2_becomeMonomial : MethodName := ⟨RX2, "becomeMonomial", "(I)V"⟩
abbrev cX2_measure : ByteArray := prog_4_method_9_code
def yX2_measure : MethodName := ⟨RX2, "measure", "()V"⟩
abbrev cX2_degreeBound : ByteArray := prog_4_method_10_code
def yX2_degreeBound : MethodName := ⟨RX2, "degreeBound", "()I"⟩
abbrev cX2_hasRoomFor : ByteArray := prog_4_method_11_code
def yX2_hasRoomFor : MethodName := ⟨RX2, "hasRoomFor", "(LSchubertDesk$Grid;)Z"⟩
abbrev cX2_becomeProduct : ByteArray := prog_4_method_12_code
def yX2_becomeProduct : MethodName := ⟨RX2, "becomeProduct", "(LSchubertDesk$Grid;LSchubertDesk$Grid;)V"⟩
abbrev cX2_valueAt : ByteArray := prog_4_method_13_code
def yX2_valueAt : MethodName := ⟨RX2, "valueAt", "(IIII)J"⟩
abbrev cX2_valueOfLine : ByteArray := prog_4_method_14_code
def yX2_valueOfLine : MethodName := ⟨RX2, "valueOfLine", "(II)J"⟩
abbrev cX2_differ : ByteArray := prog_4_method_15_code
def yX2_differ : MethodName := ⟨RX2, "differ", "(III)V"⟩
abbrev cX2_lowerDegree : ByteArray := prog_4_method_16_code
def yX2_lowerDegree : MethodName := ⟨RX2, "lowerDegree", "(II)V"⟩
abbrev cX2_lowerLine : ByteArray := prog_4_method_17_code
def yX2_lowerLine : MethodName := ⟨RX2, "lowerLine", "(III)V"⟩
abbrev cX2_pairCell : ByteArray := prog_4_method_18_code
def yX2_pairCell : MethodName := ⟨RX2, "pairCell", "(IIII)I"⟩
abbrev cX2_put : ByteArray := prog_4_method_19_code
def yX2_put : MethodName := ⟨RX2, "put", "(IJ)V"⟩
def RX3 : String := "SchubertDesk$Parts"
def TX3 : u_T := fun k => match k with
  | 0 => ("SchubertDesk$Parts", "counts", "LSchubertDesk$Grid;", true)
  | 1 => ("SchubertDesk$Parts", "numbers", "LSchubertDesk$Ascending;", true)
  | _ => ("SchubertDesk$Parts", "known", "Z", false)
def tyX3 : Nat → FieldType := fun k => match k with
  | 0 => .object "SchubertDesk$Grid"
  | 1 => .object "SchubertDesk$Ascending"
  | _ => .boolean
abbrev wsX30 : List Cond := u_ws RX3 TX3 3
theorem nmX3 : ∀ a, a < 3 → ∀ b, b < 3 → a ≠ b → (TX3 a).2.1 ≠ (TX3 b).2.1 := by decide +kernel
theorem tyX3_ok : ∀ k, k < 3 → parseFieldDescriptor (TX3 k).2.2.1 = some (tyX3 k) := by decide +kernel
abbrev cX3_init : ByteArray := prog_5_method_1_code
def yX3_init : MethodName := ⟨RX3, "<init>", "()V"⟩
abbrev cX3_forget : ByteArray := prog_5_method_2_code
def yX3_forget : MethodName := ⟨RX3, "forget", "()V"⟩
abbrev cX3_find : ByteArray := prog_5_method_3_code
def yX3_find : MethodName := ⟨RX3, "find", "(LSchubertDesk$Grid;LSchubertDesk$Single;LSchubertDesk$Digits;)V"⟩
def RX4 : String := "SchubertDesk$Single"
def TX4 : u_T := fun k => match k with
  | 0 => ("SchubertDesk$Single", "grid", "LSchubertDesk$Grid;", true)
  | 1 => ("SchubertDesk$Single", "code", "[I", true)
  | 2 => ("SchubertDesk$Single", "way", "[I", true)
  | _ => ("SchubertDesk$Single", "made", "I", false)
def tyX4 : Nat → FieldType := fun k => match k with
  | 0 => .object "SchubertDesk$Grid"
  | 1 => .array .int
  | 2 => .array .int
  | _ => .int
abbrev wsX40 : List Cond := u_ws RX4 TX4 4
theorem nmX4 : ∀ a, a < 4 → ∀ b, b < 4 → a ≠ b → (TX4 a).2.1 ≠ (TX4 b).2.1 := by decide +kernel
theorem tyX4_ok : ∀ k, k < 4 → parseFieldDescriptor (TX4 k).2.2.1 = some (tyX4 k) := by decide +kernel
abbrev cX4_init : ByteArray := prog_6_method_1_code
def yX4_init : MethodName := ⟨RX4, "<init>", "()V"⟩
abbrev cX4_make : ByteArray := prog_6_method_2_code
def yX4_make : MethodName := ⟨RX4, "make", "(I)V"⟩
abbrev cX4_climb : ByteArray := prog_6_method_3_code
def yX4_climb : MethodName := ⟨RX4, "climb", "()I"⟩
abbrev cX4_firstRise : ByteArray := prog_6_method_4_code
def yX4_firstRise : MethodName := ⟨RX4, "firstRise", "()I"⟩
abbrev cX4_exchangeAt : ByteArray := prog_6_method_5_code
def yX4_exchangeAt : MethodName := ⟨RX4, "exchangeAt", "(I)V"⟩
def RX5 : String := "SchubertDesk"
def TX5 : u_T := fun k => match k with
  | 0 => ("SchubertDesk", "first", "LSchubertDesk$Digits;", true)
  | 1 => ("SchubertDesk", "second", "LSchubertDesk$Digits;", true)
  | 2 => ("SchubertDesk", "third", "LSchubertDesk$Digits;", true)
  | 3 => ("SchubertDesk", "list", "LSchubertDesk$Ascending;", true)
  | 4 => ("SchubertDesk", "page", "LSchubertDesk$Grid;", true)
  | 5 => ("SchubertDesk", "draft", "LSchubertDesk$Grid;", true)
  | 6 => ("SchubertDesk", "single", "LSchubertDesk$Single;", true)
  | _ => ("SchubertDesk", "parts", "LSchubertDesk$Parts;", true)
def tyX5 : Nat → FieldType := fun k => match k with
  | 0 => .object "SchubertDesk$Digits"
  | 1 => .object "SchubertDesk$Digits"
  | 2 => .object "SchubertDesk$Digits"
  | 3 => .object "SchubertDesk$Ascending"
  | 4 => .object "SchubertDesk$Grid"
  | 5 => .object "SchubertDesk$Grid"
  | 6 => .object "SchubertDesk$Single"
  | _ => .object "SchubertDesk$Parts"
abbrev wsX50 : List Cond := u_ws RX5 TX5 8
theorem nmX5 : ∀ a, a < 8 → ∀ b, b < 8 → a ≠ b → (TX5 a).2.1 ≠ (TX5 b).2.1 := by decide +kernel
theorem tyX5_ok : ∀ k, k < 8 → parseFieldDescriptor (TX5 k).2.2.1 = some (tyX5 k) := by decide +kernel
abbrev cX5_init : ByteArray := prog_1_method_1_code
def yX5_init : MethodName := ⟨RX5, "<init>", "()V"⟩
abbrev cX5_plain : ByteArray := prog_1_method_2_code
def yX5_plain : MethodName := ⟨RX5, "plain", "(I)I"⟩
abbrev cX5_length : ByteArray := prog_1_method_3_code
def yX5_length : MethodName := ⟨RX5, "length", "(I)I"⟩
abbrev cX5_code : ByteArray := prog_1_method_4_code
def yX5_code : MethodName := ⟨RX5, "code", "(II)I"⟩
abbrev cX5_descents : ByteArray := prog_1_method_5_code
def yX5_descents : MethodName := ⟨RX5, "descents", "(I)I"⟩
abbrev cX5_inverse : ByteArray := prog_1_method_6_code
def yX5_inverse : MethodName := ⟨RX5, "inverse", "(I)I"⟩
abbrev cX5_after : ByteArray := prog_1_method_7_code
def yX5_after : MethodName := ⟨RX5, "after", "(II)I"⟩
abbrev cX5_ofCode : ByteArray := prog_1_method_8_code
def yX5_ofCode : MethodName := ⟨RX5, "ofCode", "(IIII)I"⟩
abbrev cX5_below : ByteArray := prog_1_method_9_code
def yX5_below : MethodName := ⟨RX5, "below", "(II)I"⟩
abbrev cX5_words : ByteArray := prog_1_method_10_code
def yX5_words : MethodName := ⟨RX5, "words", "(I)I"⟩
abbrev cX5_number : ByteArray := prog_1_method_11_code
def yX5_number : MethodName := ⟨RX5, "number", "(IIIII)I"⟩
abbrev cX5_terms : ByteArray := prog_1_method_12_code
def yX5_terms : MethodName := ⟨RX5, "terms", "(I)I"⟩
abbrev cX5_value : ByteArray := prog_1_method_13_code
def yX5_value : MethodName := ⟨RX5, "value", "(IIIII)J"⟩
abbrev cX5_wipe : ByteArray := prog_1_method_14_code
def yX5_wipe : MethodName := ⟨RX5, "wipe", "()I"⟩
abbrev cX5_add : ByteArray := prog_1_method_15_code
def yX5_add : MethodName := ⟨RX5, "add", "(II)I"⟩
abbrev cX5_multiply : ByteArray := prog_1_method_16_code
def yX5_multiply : MethodName := ⟨RX5, "multiply", "(I)I"⟩
abbrev cX5_difference : ByteArray := prog_1_method_17_code
def yX5_difference : MethodName := ⟨RX5, "difference", "(I)I"⟩
abbrev cX5_sheet : ByteArray := prog_1_method_18_code
def yX5_sheet : MethodName := ⟨RX5, "sheet", "(IIII)J"⟩
abbrev cX5_part : ByteArray := prog_1_method_19_code
def yX5_part : MethodName := ⟨RX5, "part", "(I)I"⟩
abbrev cX5_times : ByteArray := prog_1_method_20_code
def yX5_times : MethodName := ⟨RX5, "times", "(I)J"⟩
abbrev cX5_makes : ByteArray := prog_1_method_21_code
def yX5_makes : MethodName := ⟨RX5, "makes", "(I)I"⟩
abbrev cX5_dream : ByteArray := prog_1_method_22_code
def yX5_dream : MethodName := ⟨RX5, "dream", "(II)I"⟩
abbrev cX5_ladder : ByteArray := prog_1_method_23_code
def yX5_ladder : MethodName := ⟨RX5, "ladder", "(II)I"⟩
abbrev cX5_rise : ByteArray := prog_1_method_24_code
def yX5_rise : MethodName := ⟨RX5, "rise", "(III)I"⟩
abbrev cX5_step : ByteArray := prog_1_method_25_code
def yX5_step : MethodName := ⟨RX5, "step", "(II)I"⟩
abbrev cX5_shape : ByteArray := prog_1_method_26_code
def yX5_shape : MethodName := ⟨RX5, "shape", "(II)I"⟩
abbrev cX5_avoids : ByteArray := prog_1_method_27_code
def yX5_avoids : MethodName := ⟨RX5, "avoids", "(II)I"⟩
abbrev cX5_cellOf : ByteArray := prog_1_method_28_code
def yX5_cellOf : MethodName := ⟨RX5, "cellOf", "(IIII)I"⟩
abbrev cX5_exponentAt : ByteArray := prog_1_method_29_code
def yX5_exponentAt : MethodName := ⟨RX5, "exponentAt", "(II)I"⟩
abbrev cX5_isAnyNegative : ByteArray := prog_1_method_30_code
def yX5_isAnyNegative : MethodName := ⟨RX5, "isAnyNegative", "(IIII)Z"⟩
abbrev cX5_isPoint : ByteArray := prog_1_method_31_code
def yX5_isPoint : MethodName := ⟨RX5, "isPoint", "(I)Z"⟩
abbrev cX5_isCrossSet : ByteArray := prog_1_method_32_code
def yX5_isCrossSet : MethodName := ⟨RX5, "isCrossSet", "(I)Z"⟩
abbrev cX5_fitCell : ByteArray := prog_1_method_33_code
def yX5_fitCell : MethodName := ⟨RX5, "fitCell", "(I)I"⟩
abbrev cX5_takeDraft : ByteArray := prog_1_method_34_code
def yX5_takeDraft : MethodName := ⟨RX5, "takeDraft", "()I"⟩
abbrev cX5_waysDown : ByteArray := prog_1_method_35_code
def yX5_waysDown : MethodName := ⟨RX5, "waysDown", "(LSchubertDesk$Digits;I)I"⟩
abbrev cX5_isMadeBy : ByteArray := prog_1_method_36_code
def yX5_isMadeBy : MethodName := ⟨RX5, "isMadeBy", "(LSchubertDesk$Digits;I)Z"⟩
abbrev cX5_isCrossAt : ByteArray := prog_1_method_37_code
def yX5_isCrossAt : MethodName := ⟨RX5, "isCrossAt", "(III)Z"⟩
abbrev cX5_bitOf : ByteArray := prog_1_method_38_code
def yX5_bitOf : MethodName := ⟨RX5, "bitOf", "(II)I"⟩
abbrev cX5_putLadder : ByteArray := prog_1_method_39_code
def yX5_putLadder : MethodName := ⟨RX5, "putLadder", "(III)V"⟩
abbrev cX5_putExchanged : ByteArray := prog_1_method_40_code
def yX5_putExchanged : MethodName := ⟨RX5, "putExchanged", "(LSchubertDesk$Digits;III)V"⟩
def RX6 : String := "SchubertDeskModel"
def TX6 : u_T := fun k => match k with
  | 0 => ("SchubertDeskModel", "one", "[I", true)
  | 1 => ("SchubertDeskModel", "other", "[I", true)
  | 2 => ("SchubertDeskModel", "third", "[I", true)
  | 3 => ("SchubertDeskModel", "waysTo", "[I", true)
  | 4 => ("SchubertDeskModel", "poly", "[J", true)
  | 5 => ("SchubertDeskModel", "then", "[J", true)
  | 6 => ("SchubertDeskModel", "steps", "[I", true)
  | 7 => ("SchubertDeskModel", "sheet", "[J", true)
  | 8 => ("SchubertDeskModel", "next", "[J", true)
  | 9 => ("SchubertDeskModel", "isParted", "Z", false)
  | 10 => ("SchubertDeskModel", "wide", "[J", true)
  | 11 => ("SchubertDeskModel", "parts", "I", false)
  | 12 => ("SchubertDeskModel", "partOf", "[I", true)
  | 13 => ("SchubertDeskModel", "partTimes", "[J", true)
  | 14 => ("SchubertDeskModel", "found", "I", false)
  | _ => ("SchubertDeskModel", "foundAt", "[I", true)
def tyX6 : Nat → FieldType := fun k => match k with
  | 0 => .array .int
  | 1 => .array .int
  | 2 => .array .int
  | 3 => .array .int
  | 4 => .array .long
  | 5 => .array .long
  | 6 => .array .int
  | 7 => .array .long
  | 8 => .array .long
  | 9 => .boolean
  | 10 => .array .long
  | 11 => .int
  | 12 => .array .int
  | 13 => .array .long
  | 14 => .int
  | _ => .array .int
abbrev wsX60 : List Cond := u_ws RX6 TX6 16
theorem nmX6 : ∀ a, a < 16 → ∀ b, b < 16 → a ≠ b → (TX6 a).2.1 ≠ (TX6 b).2.1 := by decide +kernel
theorem tyX6_ok : ∀ k, k < 16 → parseFieldDescriptor (TX6 k).2.2.1 = some (tyX6 k) := by decide +kernel
abbrev cX6_init : ByteArray := prog_8_method_1_code
def yX6_init : MethodName := ⟨RX6, "<init>", "()V"⟩
abbrev cX6_within : ByteArray := prog_8_method_2_code
def yX6_within : MethodName := ⟨RX6, "within", "(III)Z"⟩
abbrev cX6_lays : ByteArray := prog_8_method_3_code
def yX6_lays : MethodName := ⟨RX6, "lays", "(I[I)Z"⟩
abbrev cX6_plainOf : ByteArray := prog_8_method_4_code
def yX6_plainOf : MethodName := ⟨RX6, "plainOf", "([I)I"⟩
abbrev cX6_codeAt : ByteArray := prog_8_method_5_code
def yX6_codeAt : MethodName := ⟨RX6, "codeAt", "([II)I"⟩
abbrev cX6_lengthOf : ByteArray := prog_8_method_6_code
def yX6_lengthOf : MethodName := ⟨RX6, "lengthOf", "([I)I"⟩
abbrev cX6_exchange : ByteArray := prog_8_method_7_code
def yX6_exchange : MethodName := ⟨RX6, "exchange", "([III)V"⟩
abbrev cX6_descentsOf : ByteArray := prog_8_method_8_code
def yX6_descentsOf : MethodName := ⟨RX6, "descentsOf", "([I)I"⟩
abbrev cX6_isFit : ByteArray := prog_8_method_9_code
def yX6_isFit : MethodName := ⟨RX6, "isFit", "([I)Z"⟩
abbrev cX6_isSmall : ByteArray := prog_8_method_10_code
def yX6_isSmall : MethodName := ⟨RX6, "isSmall", "([I)Z"⟩
abbrev cX6_plain : ByteArray := prog_8_method_11_code
def yX6_plain : MethodName := ⟨RX6, "plain", "(I)I"⟩
abbrev cX6_length : ByteArray := prog_8_method_12_code
def yX6_length : MethodName := ⟨RX6, "length", "(I)I"⟩
abbrev cX6_code : ByteArray := prog_8_method_13_code
def yX6_code : MethodName := ⟨RX6, "code", "(II)I"⟩
abbrev cX6_descents : ByteArray := prog_8_method_14_code
def yX6_descents : MethodName := ⟨RX6, "descents", "(I)I"⟩
abbrev cX6_inverse : ByteArray := prog_8_method_15_code
def yX6_inverse : MethodName := ⟨RX6, "inverse", "(I)I"⟩
abbrev cX6_after : ByteArray := prog_8_method_16_code
def yX6_after : MethodName := ⟨RX6, "after", "(II)I"⟩
abbrev cX6_laysCode : ByteArray := prog_8_method_17_code
def yX6_laysCode : MethodName := ⟨RX6, "laysCode", "(IIII[I)V"⟩
abbrev cX6_ofCode : ByteArray := prog_8_method_18_code
def yX6_ofCode : MethodName := ⟨RX6, "ofCode", "(IIII)I"⟩
abbrev cX6_manyFrom : ByteArray := prog_8_method_19_code
def yX6_manyFrom : MethodName := ⟨RX6, "manyFrom", "([III)I"⟩
abbrev cX6_below : ByteArray := prog_8_method_20_code
def yX6_below : MethodName := ⟨RX6, "below", "(II)I"⟩
abbrev cX6_laysSmall : ByteArray := prog_8_method_21_code
def yX6_laysSmall : MethodName := ⟨RX6, "laysSmall", "(I)V"⟩
abbrev cX6_smallOf : ByteArray := prog_8_method_22_code
def yX6_smallOf : MethodName := ⟨RX6, "smallOf", "([I)I"⟩
abbrev cX6_findWays : ByteArray := prog_8_method_23_code
def yX6_findWays : MethodName := ⟨RX6, "findWays", "(I)V"⟩
abbrev cX6_words : ByteArray := prog_8_method_24_code
def yX6_words : MethodName := ⟨RX6, "words", "(I)I"⟩
abbrev cX6_cellOf : ByteArray := prog_8_method_25_code
def yX6_cellOf : MethodName := ⟨RX6, "cellOf", "(IIII)I"⟩
abbrev cX6_isCell : ByteArray := prog_8_method_26_code
def yX6_isCell : MethodName := ⟨RX6, "isCell", "(IIII)Z"⟩
abbrev cX6_exponentAt : ByteArray := prog_8_method_27_code
def yX6_exponentAt : MethodName := ⟨RX6, "exponentAt", "(II)I"⟩
abbrev cX6_strideOf : ByteArray := prog_8_method_28_code
def yX6_strideOf : MethodName := ⟨RX6, "strideOf", "(I)I"⟩
abbrev cX6_differs : ByteArray := prog_8_method_29_code
def yX6_differs : MethodName := ⟨RX6, "differs", "([JI)V"⟩
abbrev cX6_findS : ByteArray := prog_8_method_30_code
def yX6_findS : MethodName := ⟨RX6, "findS", "([I)V"⟩
abbrev cX6_termsOf : ByteArray := prog_8_method_31_code
def yX6_termsOf : MethodName := ⟨RX6, "termsOf", "([J)I"⟩
abbrev cX6_number : ByteArray := prog_8_method_32_code
def yX6_number : MethodName := ⟨RX6, "number", "(IIIII)I"⟩
abbrev cX6_terms : ByteArray := prog_8_method_33_code
def yX6_terms : MethodName := ⟨RX6, "terms", "(I)I"⟩
abbrev cX6_power : ByteArray := prog_8_method_34_code
def yX6_power : MethodName := ⟨RX6, "power", "(II)J"⟩
abbrev cX6_isX : ByteArray := prog_8_method_35_code
def yX6_isX : MethodName := ⟨RX6, "isX", "(I)Z"⟩
abbrev cX6_value : ByteArray := prog_8_method_36_code
def yX6_value : MethodName := ⟨RX6, "value", "(IIIII)J"⟩
abbrev cX6_becomes : ByteArray := prog_8_method_37_code
def yX6_becomes : MethodName := ⟨RX6, "becomes", "()I"⟩
abbrev cX6_wipe : ByteArray := prog_8_method_38_code
def yX6_wipe : MethodName := ⟨RX6, "wipe", "()I"⟩
abbrev cX6_add : ByteArray := prog_8_method_39_code
def yX6_add : MethodName := ⟨RX6, "add", "(II)I"⟩
abbrev cX6_wideOf : ByteArray := prog_8_method_40_code
def yX6_wideOf : MethodName := ⟨RX6, "wideOf", "(I)I"⟩
abbrev cX6_findProduct : ByteArray := prog_8_method_41_code
def yX6_findProduct : MethodName := ⟨RX6, "findProduct", "()V"⟩
abbrev cX6_keeps : ByteArray := prog_8_method_42_code
def yX6_keeps : MethodName := ⟨RX6, "keeps", "()Z"⟩
abbrev cX6_multiply : ByteArray := prog_8_method_43_code
def yX6_multiply : MethodName := ⟨RX6, "multiply", "(I)I"⟩
abbrev cX6_difference : ByteArray := prog_8_method_44_code
def yX6_difference : MethodName := ⟨RX6, "difference", "(I)I"⟩
abbrev cX6_sheet : ByteArray := prog_8_method_45_code
def yX6_sheet : MethodName := ⟨RX6, "sheet", "(IIII)J"⟩
abbrev cX6_adds : ByteArray := prog_8_method_46_code
def yX6_adds : MethodName := ⟨RX6, "adds", "(IJ)V"⟩
abbrev cX6_findParts : ByteArray := prog_8_method_47_code
def yX6_findParts : MethodName := ⟨RX6, "findParts", "()V"⟩
abbrev cX6_knowsParts : ByteArray := prog_8_method_48_code
def yX6_knowsParts : MethodName := ⟨RX6, "knowsParts", "()V"⟩
abbrev cX6_part : ByteArray := prog_8_method_49_code
def yX6_part : MethodName := ⟨RX6, "part", "(I)I"⟩
abbrev cX6_times : ByteArray := prog_8_method_50_code
def yX6_times : MethodName := ⟨RX6, "times", "(I)J"⟩
abbrev cX6_bitOf : ByteArray := prog_8_method_51_code
def yX6_bitOf : MethodName := ⟨RX6, "bitOf", "(II)I"⟩
abbrev cX6_isPlace : ByteArray := prog_8_method_52_code
def yX6_isPlace : MethodName := ⟨RX6, "isPlace", "(II)Z"⟩
abbrev cX6_isCross : ByteArray := prog_8_method_53_code
def yX6_isCross : MethodName := ⟨RX6, "isCross", "(III)Z"⟩
abbrev cX6_areTight : ByteArray := prog_8_method_54_code
def yX6_areTight : MethodName := ⟨RX6, "areTight", "(I)Z"⟩
abbrev cX6_makes : ByteArray := prog_8_method_55_code
def yX6_makes : MethodName := ⟨RX6, "makes", "(I)I"⟩
abbrev cX6_dream : ByteArray := prog_8_method_56_code
def yX6_dream : MethodName := ⟨RX6, "dream", "(II)I"⟩
abbrev cX6_finds : ByteArray := prog_8_method_57_code
def yX6_finds : MethodName := ⟨RX6, "finds", "(I)V"⟩
abbrev cX6_foundBy : ByteArray := prog_8_method_58_code
def yX6_foundBy : MethodName := ⟨RX6, "foundBy", "(I)I"⟩
abbrev cX6_areBoth : ByteArray := prog_8_method_59_code
def yX6_areBoth : MethodName := ⟨RX6, "areBoth", "(III)Z"⟩
abbrev cX6_climbs : ByteArray := prog_8_method_60_code
def yX6_climbs : MethodName := ⟨RX6, "climbs", "(III)V"⟩
abbrev cX6_ladder : ByteArray := prog_8_method_61_code
def yX6_ladder : MethodName := ⟨RX6, "ladder", "(II)I"⟩
abbrev cX6_rise : ByteArray := prog_8_method_62_code
def yX6_rise : MethodName := ⟨RX6, "rise", "(III)I"⟩
abbrev cX6_lastDescent : ByteArray := prog_8_method_63_code
def yX6_lastDescent : MethodName := ⟨RX6, "lastDescent", "([I)I"⟩
abbrev cX6_step : ByteArray := prog_8_method_64_code
def yX6_step : MethodName := ⟨RX6, "step", "(II)I"⟩
abbrev cX6_shape : ByteArray := prog_8_method_65_code
def yX6_shape : MethodName := ⟨RX6, "shape", "(II)I"⟩
abbrev cX6_hasThree : ByteArray := prog_8_method_66_code
def yX6_hasThree : MethodName := ⟨RX6, "hasThree", "([I)Z"⟩
abbrev cX6_hasFour : ByteArray := prog_8_method_67_code
def yX6_hasFour : MethodName := ⟨RX6, "hasFour", "([I)Z"⟩
abbrev cX6_avoids : ByteArray := prog_8_method_68_code
def yX6_avoids : MethodName := ⟨RX6, "avoids", "(II)I"⟩
def RJ6 : String := "java/lang/Integer"
def TJ6 : u_T := fun k => match k with
  | _ => ("", "", "", false)
def tyJ6 : Nat → FieldType := fun k => match k with
  | _ => .int
abbrev wsJ60 : List Cond := u_ws RJ6 TJ6 0
theorem nmJ6 : ∀ a, a < 0 → ∀ b, b < 0 → a ≠ b → (TJ6 a).2.1 ≠ (TJ6 b).2.1 := by decide +kernel
theorem tyJ6_ok : ∀ k, k < 0 → parseFieldDescriptor (TJ6 k).2.2.1 = some (tyJ6 k) := by decide +kernel
abbrev cJ6_bitCount_0f7a4 : ByteArray := prog_9_method_49_code
def yJ6_bitCount_0f7a4 : MethodName := ⟨RJ6, "bitCount", "(I)I"⟩
def RJ9 : String := "java/lang/Math"
def TJ9 : u_T := fun k => match k with
  | _ => ("", "", "", false)
def tyJ9 : Nat → FieldType := fun k => match k with
  | _ => .int
abbrev wsJ90 : List Cond := u_ws RJ9 TJ9 0
theorem nmJ9 : ∀ a, a < 0 → ∀ b, b < 0 → a ≠ b → (TJ9 a).2.1 ≠ (TJ9 b).2.1 := by decide +kernel
theorem tyJ9_ok : ∀ k, k < 0 → parseFieldDescriptor (TJ9 k).2.2.1 = some (tyJ9 k) := by decide +kernel
abbrev cJ9_max_7cf53 : ByteArray := prog_10_method_65_code
def yJ9_max_7cf53 : MethodName := ⟨RJ9, "max", "(II)I"⟩
abbrev cJ9_min_7cf53 : ByteArray := prog_10_method_69_code
def yJ9_min_7cf53 : MethodName := ⟨RJ9, "min", "(II)I"⟩
def RJ10 : String := "java/lang/System"
def TJ10 : u_T := fun k => match k with
  | _ => ("", "", "", false)
def tyJ10 : Nat → FieldType := fun k => match k with
  | _ => .int
abbrev wsJ100 : List Cond := u_ws RJ10 TJ10 0
theorem nmJ10 : ∀ a, a < 0 → ∀ b, b < 0 → a ≠ b → (TJ10 a).2.1 ≠ (TJ10 b).2.1 := by decide +kernel
theorem tyJ10_ok : ∀ k, k < 0 → parseFieldDescriptor (TJ10 k).2.2.1 = some (tyJ10 k) := by decide +kernel
def RJ7 : String := "java/util/Arrays"
def TJ7 : u_T := fun k => match k with
  | _ => ("", "", "", false)
def tyJ7 : Nat → FieldType := fun k => match k with
  | _ => .int
abbrev wsJ70 : List Cond := u_ws RJ7 TJ7 0
theorem nmJ7 : ∀ a, a < 0 → ∀ b, b < 0 → a ≠ b → (TJ7 a).2.1 ≠ (TJ7 b).2.1 := by decide +kernel
theorem tyJ7_ok : ∀ k, k < 0 → parseFieldDescriptor (TJ7 k).2.2.1 = some (tyJ7 k) := by decide +kernel
abbrev cJ7_fill_d0a16 : ByteArray := prog_12_method_101_code
def yJ7_fill_d0a16 : MethodName := ⟨RJ7, "fill", "([JJ)V"⟩
abbrev cJ7_fill_53178 : ByteArray := prog_12_method_103_code
def yJ7_fill_53178 : MethodName := ⟨RJ7, "fill", "([II)V"⟩
def RL : String := "SchubertDeskLaw"
abbrev cL_law : ByteArray := code
def yL_law : MethodName := ⟨RL, "law", "([I)Z"⟩
def wsX0_init : List Cond := .code yX0_init cX0_init 2 none :: ([.methodLink RX0 3 objectInit, .instanceMethod objectInit, .code objectInit ⟨#[0xb1]⟩ 1 none, .fieldLink RX0 9 "SchubertDesk$Ascending" "size" "I", .methodLink RX0 15 Lib.Math.max.name, .static Lib.Math.max.name, .initialized "java/lang/Math", .code Lib.Math.max.name Lib.Math.max.code 2 (some .int), .arrayClass .int, .fieldLink RX0 21 "SchubertDesk$Ascending" "items" "[I"] ++ wsX00)
def wsX0_clear : List Cond := .code yX0_clear cX0_clear 1 none :: ([.fieldLink RX0 9 "SchubertDesk$Ascending" "size" "I"] ++ wsX00)
def wsX0_put : List Cond := .code yX0_put cX0_put 4 none :: ([.fieldLink RX0 9 "SchubertDesk$Ascending" "size" "I", .fieldLink RX0 21 "SchubertDesk$Ascending" "items" "[I", .methodLink RX0 25 arraycopyName, .native arraycopyName, .static arraycopyName, .initialized "java/lang/System"] ++ wsX00)
def wsX0_answer : List Cond := .code yX0_answer cX0_answer 2 (some .int) :: ([.fieldLink RX0 9 "SchubertDesk$Ascending" "size" "I", .fieldLink RX0 21 "SchubertDesk$Ascending" "items" "[I"] ++ wsX00)
def wsX1_init : List Cond := .code yX1_init cX1_init 1 none :: ([.methodLink RX1 3 objectInit, .instanceMethod objectInit, .code objectInit ⟨#[0xb1]⟩ 1 none, .arrayClass .int, .fieldLink RX1 9 "SchubertDesk$Digits" "row" "[I"] ++ wsX10)
def wsX1_stayInPlace : List Cond := .code yX1_stayInPlace cX1_stayInPlace 2 none :: ([.fieldLink RX1 9 "SchubertDesk$Digits" "row" "[I"] ++ wsX10)
def wsX1_read : List Cond := .code yX1_read cX1_read 7 (some .boolean) :: ([.constant RX1 15 (987654321), .fieldLink RX1 9 "SchubertDesk$Digits" "row" "[I", .methodLink RX1 16 yX1_stayInPlace, .instanceMethod yX1_stayInPlace, .selects RX1 yX1_stayInPlace yX1_stayInPlace, .initialized RX1, .code yX1_stayInPlace cX1_stayInPlace 2 none] ++ wsX10)
def wsX1_digit : List Cond := .code yX1_digit cX1_digit 2 (some .int) :: ([.fieldLink RX1 9 "SchubertDesk$Digits" "row" "[I"] ++ wsX10)
def wsX1_put : List Cond := .code yX1_put cX1_put 3 none :: ([.fieldLink RX1 9 "SchubertDesk$Digits" "row" "[I"] ++ wsX10)
def wsX1_exchange : List Cond := .code yX1_exchange cX1_exchange 4 none :: ([.methodLink RX1 19 yX1_digit, .instanceMethod yX1_digit, .selects RX1 yX1_digit yX1_digit, .initialized RX1, .code yX1_digit cX1_digit 2 (some .int), .fieldLink RX1 9 "SchubertDesk$Digits" "row" "[I", .methodLink RX1 23 yX1_put, .instanceMethod yX1_put, .selects RX1 yX1_put yX1_put, .code yX1_put cX1_put 3 none] ++ wsX10)
def wsX1_isSame : List Cond := .code yX1_isSame cX1_isSame 3 (some .boolean) :: ([.fieldLink RX1 9 "SchubertDesk$Digits" "row" "[I"] ++ wsX10)
def wsX1_becomeInverse : List Cond := .code yX1_becomeInverse cX1_becomeInverse 3 none :: ([.methodLink RX1 19 yX1_digit, .instanceMethod yX1_digit, .selects RX1 yX1_digit yX1_digit, .initialized RX1, .code yX1_digit cX1_digit 2 (some .int), .fieldLink RX1 9 "SchubertDesk$Digits" "row" "[I", .methodLink RX1 23 yX1_put, .instanceMethod yX1_put, .selects RX1 yX1_put yX1_put, .code yX1_put cX1_put 3 none] ++ wsX10)
def wsX1_becomeProduct : List Cond := .code yX1_becomeProduct cX1_becomeProduct 4 none :: ([.fieldLink RX1 9 "SchubertDesk$Digits" "row" "[I", .methodLink RX1 19 yX1_digit, .instanceMethod yX1_digit, .selects RX1 yX1_digit yX1_digit, .initialized RX1, .code yX1_digit cX1_digit 2 (some .int)] ++ wsX10)
def wsX5_exponentAt : List Cond := .code yX5_exponentAt cX5_exponentAt 2 (some .int) :: ([])
def wsX1_unusedAbove : List Cond := .code yX1_unusedAbove cX1_unusedAbove 4 (some .int) :: ([])
def wsX1_becomeOfCode : List Cond := .code yX1_becomeOfCode cX1_becomeOfCode 5 none :: ([.fieldLink RX1 9 "SchubertDesk$Digits" "row" "[I", .static yX5_exponentAt, .initialized RX5, .code yX5_exponentAt cX5_exponentAt 2 (some .int), .methodLink RX1 31 yX1_unusedAbove, .static yX1_unusedAbove, .initialized RX1, .code yX1_unusedAbove cX1_unusedAbove 4 (some .int)] ++ wsX10)
def wsX1_becomeMade : List Cond := .code yX1_becomeMade cX1_becomeMade 3 none :: ([.methodLink RX1 16 yX1_stayInPlace, .instanceMethod yX1_stayInPlace, .selects RX1 yX1_stayInPlace yX1_stayInPlace, .initialized RX1, .code yX1_stayInPlace cX1_stayInPlace 2 none, .fieldLink RX1 9 "SchubertDesk$Digits" "row" "[I", .methodLink RX1 40 yX1_exchange, .instanceMethod yX1_exchange, .selects RX1 yX1_exchange yX1_exchange, .code yX1_exchange cX1_exchange 4 none, .methodLink RX1 19 yX1_digit, .instanceMethod yX1_digit, .selects RX1 yX1_digit yX1_digit, .code yX1_digit cX1_digit 2 (some .int), .methodLink RX1 23 yX1_put, .instanceMethod yX1_put, .selects RX1 yX1_put yX1_put, .code yX1_put cX1_put 3 none] ++ wsX10)
def wsX1_plainCount : List Cond := .code yX1_plainCount cX1_plainCount 2 (some .int) :: ([.fieldLink RX1 9 "SchubertDesk$Digits" "row" "[I"] ++ wsX10)
def wsX1_plainNumber : List Cond := .code yX1_plainNumber cX1_plainNumber 4 (some .int) :: ([.fieldLink RX1 9 "SchubertDesk$Digits" "row" "[I", .methodLink RX1 43 yX1_plainCount, .instanceMethod yX1_plainCount, .selects RX1 yX1_plainCount yX1_plainCount, .initialized RX1, .code yX1_plainCount cX1_plainCount 2 (some .int)] ++ wsX10)
def wsX1_isSmall : List Cond := .code yX1_isSmall cX1_isSmall 1 (some .boolean) :: ([.methodLink RX1 43 yX1_plainCount, .instanceMethod yX1_plainCount, .selects RX1 yX1_plainCount yX1_plainCount, .initialized RX1, .code yX1_plainCount cX1_plainCount 2 (some .int), .fieldLink RX1 9 "SchubertDesk$Digits" "row" "[I"] ++ wsX10)
def wsX1_codeAt : List Cond := .code yX1_codeAt cX1_codeAt 4 (some .int) :: ([.methodLink RX1 19 yX1_digit, .instanceMethod yX1_digit, .selects RX1 yX1_digit yX1_digit, .initialized RX1, .code yX1_digit cX1_digit 2 (some .int), .fieldLink RX1 9 "SchubertDesk$Digits" "row" "[I"] ++ wsX10)
def wsX1_inversions : List Cond := .code yX1_inversions cX1_inversions 3 (some .int) :: ([.methodLink RX1 47 yX1_codeAt, .instanceMethod yX1_codeAt, .selects RX1 yX1_codeAt yX1_codeAt, .initialized RX1, .code yX1_codeAt cX1_codeAt 4 (some .int), .methodLink RX1 19 yX1_digit, .instanceMethod yX1_digit, .selects RX1 yX1_digit yX1_digit, .code yX1_digit cX1_digit 2 (some .int), .fieldLink RX1 9 "SchubertDesk$Digits" "row" "[I"] ++ wsX10)
def wsX5_isAnyNegative : List Cond := .code yX5_isAnyNegative cX5_isAnyNegative 4 (some .boolean) :: ([])
def wsX5_cellOf : List Cond := .code yX5_cellOf cX5_cellOf 4 (some .int) :: ([.methodLink RX5 105 yX5_isAnyNegative, .static yX5_isAnyNegative, .initialized RX5, .code yX5_isAnyNegative cX5_isAnyNegative 4 (some .boolean)])
def wsX1_codeCell : List Cond := .code yX1_codeCell cX1_codeCell 1 (some .int) :: ([.methodLink RX1 47 yX1_codeAt, .instanceMethod yX1_codeAt, .selects RX1 yX1_codeAt yX1_codeAt, .initialized RX1, .code yX1_codeAt cX1_codeAt 4 (some .int), .methodLink RX1 19 yX1_digit, .instanceMethod yX1_digit, .selects RX1 yX1_digit yX1_digit, .code yX1_digit cX1_digit 2 (some .int), .fieldLink RX1 9 "SchubertDesk$Digits" "row" "[I", .static yX5_cellOf, .initialized RX5, .code yX5_cellOf cX5_cellOf 4 (some .int), .methodLink RX5 105 yX5_isAnyNegative, .static yX5_isAnyNegative, .code yX5_isAnyNegative cX5_isAnyNegative 4 (some .boolean)] ++ wsX10)
def wsX1_descentSet : List Cond := .code yX1_descentSet cX1_descentSet 3 (some .int) :: ([.fieldLink RX1 9 "SchubertDesk$Digits" "row" "[I"] ++ wsX10)
def wsX1_lastDescent : List Cond := .code yX1_lastDescent cX1_lastDescent 3 (some .int) :: ([.fieldLink RX1 9 "SchubertDesk$Digits" "row" "[I"] ++ wsX10)
def wsX1_isFit : List Cond := .code yX1_isFit cX1_isFit 1 (some .boolean) :: ([.methodLink RX1 54 yX1_lastDescent, .instanceMethod yX1_lastDescent, .selects RX1 yX1_lastDescent yX1_lastDescent, .initialized RX1, .code yX1_lastDescent cX1_lastDescent 3 (some .int), .fieldLink RX1 9 "SchubertDesk$Digits" "row" "[I"] ++ wsX10)
def wsX1_lastLessThan : List Cond := .code yX1_lastLessThan cX1_lastLessThan 4 (some .int) :: ([.fieldLink RX1 9 "SchubertDesk$Digits" "row" "[I", .methodLink RX1 19 yX1_digit, .instanceMethod yX1_digit, .selects RX1 yX1_digit yX1_digit, .initialized RX1, .code yX1_digit cX1_digit 2 (some .int)] ++ wsX10)
def wsX1_isBelow : List Cond := .code yX1_isBelow cX1_isBelow 5 (some .boolean) :: ([.fieldLink RX1 9 "SchubertDesk$Digits" "row" "[I"] ++ wsX10)
def wsX1_leastAhead : List Cond := .code yX1_leastAhead cX1_leastAhead 4 (some .int) :: ([.methodLink RX1 60 Lib.Math.min.name, .static Lib.Math.min.name, .initialized "java/lang/Math", .code Lib.Math.min.name Lib.Math.min.code 2 (some .int), .methodLink RX1 19 yX1_digit, .instanceMethod yX1_digit, .selects RX1 yX1_digit yX1_digit, .initialized RX1, .code yX1_digit cX1_digit 2 (some .int), .fieldLink RX1 9 "SchubertDesk$Digits" "row" "[I"] ++ wsX10)
def wsX1_hasLeastGreatestMiddle : List Cond := .code yX1_hasLeastGreatestMiddle cX1_hasLeastGreatestMiddle 3 (some .boolean) :: ([.fieldLink RX1 9 "SchubertDesk$Digits" "row" "[I", .methodLink RX1 57 yX1_leastAhead, .instanceMethod yX1_leastAhead, .selects RX1 yX1_leastAhead yX1_leastAhead, .initialized RX1, .code yX1_leastAhead cX1_leastAhead 4 (some .int), .methodLink RX1 60 Lib.Math.min.name, .static Lib.Math.min.name, .initialized "java/lang/Math", .code Lib.Math.min.name Lib.Math.min.code 2 (some .int), .methodLink RX1 19 yX1_digit, .instanceMethod yX1_digit, .selects RX1 yX1_digit yX1_digit, .code yX1_digit cX1_digit 2 (some .int)] ++ wsX10)
def wsX1_hasFallAhead : List Cond := .code yX1_hasFallAhead cX1_hasFallAhead 6 (some .boolean) :: ([.methodLink RX1 69 Lib.Math.max.name, .static Lib.Math.max.name, .initialized "java/lang/Math", .code Lib.Math.max.name Lib.Math.max.code 2 (some .int), .methodLink RX1 19 yX1_digit, .instanceMethod yX1_digit, .selects RX1 yX1_digit yX1_digit, .initialized RX1, .code yX1_digit cX1_digit 2 (some .int), .fieldLink RX1 9 "SchubertDesk$Digits" "row" "[I"] ++ wsX10)
def wsX1_hasTwoOneFourThree : List Cond := .code yX1_hasTwoOneFourThree cX1_hasTwoOneFourThree 3 (some .boolean) :: ([.fieldLink RX1 9 "SchubertDesk$Digits" "row" "[I", .methodLink RX1 65 yX1_hasFallAhead, .instanceMethod yX1_hasFallAhead, .selects RX1 yX1_hasFallAhead yX1_hasFallAhead, .initialized RX1, .code yX1_hasFallAhead cX1_hasFallAhead 6 (some .boolean), .methodLink RX1 69 Lib.Math.max.name, .static Lib.Math.max.name, .initialized "java/lang/Math", .code Lib.Math.max.name Lib.Math.max.code 2 (some .int), .methodLink RX1 19 yX1_digit, .instanceMethod yX1_digit, .selects RX1 yX1_digit yX1_digit, .code yX1_digit cX1_digit 2 (some .int)] ++ wsX10)
def wsX2_init : List Cond := .code yX2_init cX2_init 1 none :: ([.methodLink RX2 3 objectInit, .instanceMethod objectInit, .code objectInit ⟨#[0xb1]⟩ 1 none, .arrayClass .long, .fieldLink RX2 9 "SchubertDesk$Grid" "cell" "[J", .arrayClass .int, .fieldLink RX2 15 "SchubertDesk$Grid" "top" "[I"] ++ wsX20)
def wsX2_at : List Cond := .code yX2_at cX2_at 2 (some .long) :: ([.fieldLink RX2 9 "SchubertDesk$Grid" "cell" "[J"] ++ wsX20)
def wsJ7_fill_d0a16 : List Cond := .code yJ7_fill_d0a16 cJ7_fill_d0a16 5 none :: ([])
def wsX2_clear : List Cond := .code yX2_clear cX2_clear 1 none :: ([.fieldLink RX2 9 "SchubertDesk$Grid" "cell" "[J", .methodLink RX2 19 yJ7_fill_d0a16, .static yJ7_fill_d0a16, .initialized RJ7, .code yJ7_fill_d0a16 cJ7_fill_d0a16 5 none] ++ wsX20)
def wsX2_copy : List Cond := .code yX2_copy cX2_copy 2 none :: ([.fieldLink RX2 9 "SchubertDesk$Grid" "cell" "[J", .methodLink RX2 25 arraycopyName, .native arraycopyName, .static arraycopyName, .initialized "java/lang/System"] ++ wsX20)
def wsX2_filled : List Cond := .code yX2_filled cX2_filled 3 (some .int) :: ([.fieldLink RX2 9 "SchubertDesk$Grid" "cell" "[J"] ++ wsX20)
def wsX2_isWithinLimit : List Cond := .code yX2_isWithinLimit cX2_isWithinLimit 2 (some .boolean) :: ([.fieldLink RX2 9 "SchubertDesk$Grid" "cell" "[J", .constantLong RX2 31 (1000000000), .constantLong RX2 33 (-1000000000)] ++ wsX20)
def wsX2_addTimes : List Cond := .code yX2_addTimes cX2_addTimes 6 none :: ([.fieldLink RX2 9 "SchubertDesk$Grid" "cell" "[J"] ++ wsX20)
def wsX2_becomeMonomial : List Cond := .code yX2_becomeMonomial cX2_becomeMonomial 3 none :: ([.fieldLink RX2 9 "SchubertDesk$Grid" "cell" "[J", .fieldLink RX2 15 "SchubertDesk$Grid" "top" "[I", .methodLink RX2 35 yX2_clear, .instanceMethod yX2_clear, .selects RX2 yX2_clear yX2_clear, .initialized RX2, .code yX2_clear cX2_clear 1 none, .methodLink RX2 19 yJ7_fill_d0a16, .static yJ7_fill_d0a16, .initialized RJ7, .code yJ7_fill_d0a16 cJ7_fill_d0a16 5 none, .static yX5_exponentAt, .initialized RX5, .code yX5_exponentAt cX5_exponentAt 2 (some .int)] ++ wsX20)
def wsJ7_fill_53178 : List Cond := .code yJ7_fill_53178 cJ7_fill_53178 4 none :: ([])
def wsX2_measure : List Cond := .code yX2_measure cX2_measure 3 none :: ([.fieldLink RX2 15 "SchubertDesk$Grid" "top" "[I", .fieldLink RX2 9 "SchubertDesk$Grid" "cell" "[J", .methodLink RX2 45 Lib.Math.max.name, .static Lib.Math.max.name, .initialized "java/lang/Math", .code Lib.Math.max.name Lib.Math.max.code 2 (some .int), .methodLink RX2 42 yJ7_fill_53178, .static yJ7_fill_53178, .initialized RJ7, .code yJ7_fill_53178 cJ7_fill_53178 4 none, .static yX5_exponentAt, .initialized RX5, .code yX5_exponentAt cX5_exponentAt 2 (some .int)] ++ wsX20)
def wsX2_degreeBound : List Cond := .code yX2_degreeBound cX2_degreeBound 1 (some .int) :: ([.fieldLink RX2 15 "SchubertDesk$Grid" "top" "[I"] ++ wsX20)
def wsX2_hasRoomFor : List Cond := .code yX2_hasRoomFor cX2_hasRoomFor 3 (some .boolean) :: ([.fieldLink RX2 15 "SchubertDesk$Grid" "top" "[I"] ++ wsX20)
def wsX2_becomeProduct : List Cond := .code yX2_becomeProduct cX2_becomeProduct 7 none :: ([.fieldLink RX2 9 "SchubertDesk$Grid" "cell" "[J", .methodLink RX2 35 yX2_clear, .instanceMethod yX2_clear, .selects RX2 yX2_clear yX2_clear, .initialized RX2, .code yX2_clear cX2_clear 1 none, .methodLink RX2 19 yJ7_fill_d0a16, .static yJ7_fill_d0a16, .initialized RJ7, .code yJ7_fill_d0a16 cJ7_fill_d0a16 5 none] ++ wsX20)
def wsX2_valueOfLine : List Cond := .code yX2_valueOfLine cX2_valueOfLine 6 (some .long) :: ([.methodLink RX2 61 yX2_at, .instanceMethod yX2_at, .selects RX2 yX2_at yX2_at, .initialized RX2, .code yX2_at cX2_at 2 (some .long), .fieldLink RX2 9 "SchubertDesk$Grid" "cell" "[J"] ++ wsX20)
def wsX2_valueAt : List Cond := .code yX2_valueAt cX2_valueAt 14 (some .long) :: ([.static yX5_cellOf, .initialized RX5, .code yX5_cellOf cX5_cellOf 4 (some .int), .methodLink RX5 105 yX5_isAnyNegative, .static yX5_isAnyNegative, .code yX5_isAnyNegative cX5_isAnyNegative 4 (some .boolean), .methodLink RX2 57 yX2_valueOfLine, .instanceMethod yX2_valueOfLine, .selects RX2 yX2_valueOfLine yX2_valueOfLine, .initialized RX2, .code yX2_valueOfLine cX2_valueOfLine 6 (some .long), .methodLink RX2 61 yX2_at, .instanceMethod yX2_at, .selects RX2 yX2_at yX2_at, .code yX2_at cX2_at 2 (some .long), .fieldLink RX2 9 "SchubertDesk$Grid" "cell" "[J"] ++ wsX20)
def wsX2_pairCell : List Cond := .code yX2_pairCell cX2_pairCell 4 (some .int) :: ([])
def wsX2_put : List Cond := .code yX2_put cX2_put 4 none :: ([.fieldLink RX2 9 "SchubertDesk$Grid" "cell" "[J"] ++ wsX20)
def wsX2_lowerLine : List Cond := .code yX2_lowerLine cX2_lowerLine 10 none :: ([.fieldLink RX2 15 "SchubertDesk$Grid" "top" "[I", .methodLink RX2 45 Lib.Math.max.name, .static Lib.Math.max.name, .initialized "java/lang/Math", .code Lib.Math.max.name Lib.Math.max.code 2 (some .int), .methodLink RX2 76 Lib.Math.min.name, .static Lib.Math.min.name, .code Lib.Math.min.name Lib.Math.min.code 2 (some .int), .methodLink RX2 79 yX2_pairCell, .static yX2_pairCell, .initialized RX2, .code yX2_pairCell cX2_pairCell 4 (some .int), .methodLink RX2 61 yX2_at, .instanceMethod yX2_at, .selects RX2 yX2_at yX2_at, .code yX2_at cX2_at 2 (some .long), .fieldLink RX2 9 "SchubertDesk$Grid" "cell" "[J", .methodLink RX2 82 yX2_put, .instanceMethod yX2_put, .selects RX2 yX2_put yX2_put, .code yX2_put cX2_put 4 none] ++ wsX20)
def wsX2_lowerDegree_r1 : List Cond := [Cond.fieldLink RX2 15 "SchubertDesk$Grid" "top" "[I", Cond.methodLink RX2 72 yX2_lowerLine, Cond.instanceMethod yX2_lowerLine, Cond.selects RX2 yX2_lowerLine yX2_lowerLine, Cond.initialized RX2, Cond.code yX2_lowerLine cX2_lowerLine 10 none, Cond.methodLink RX2 45 Lib.Math.max.name, Cond.static Lib.Math.max.name, Cond.initialized "java/lang/Math", Cond.code Lib.Math.max.name Lib.Math.max.code 2 (some .int), Cond.methodLink RX2 76 Lib.Math.min.name, Cond.static Lib.Math.min.name, Cond.code Lib.Math.min.name Lib.Math.min.code 2 (some .int), Cond.methodLink RX2 79 yX2_pairCell, Cond.static yX2_pairCell, Cond.code yX2_pairCell cX2_pairCell 4 (some .int), Cond.methodLink RX2 61 yX2_at, Cond.instanceMethod yX2_at, Cond.selects RX2 yX2_at yX2_at, Cond.code yX2_at cX2_at 2 (some .long), Cond.fieldLink RX2 9 "SchubertDesk$Grid" "cell" "[J", Cond.methodLink RX2 82 yX2_put, Cond.instanceMethod yX2_put, Cond.selects RX2 yX2_put yX2_put]
def wsX2_lowerDegree_r2 : List Cond := [Cond.code yX2_put cX2_put 4 none]
def wsX2_lowerDegree : List Cond := .code yX2_lowerDegree cX2_lowerDegree 7 none :: ((wsX2_lowerDegree_r1 ++ wsX2_lowerDegree_r2) ++ wsX20)
def wsX2_differ_r1 : List Cond := [Cond.fieldLink RX2 15 "SchubertDesk$Grid" "top" "[I", Cond.methodLink RX2 45 Lib.Math.max.name, Cond.static Lib.Math.max.name, Cond.initialized "java/lang/Math", Cond.code Lib.Math.max.name Lib.Math.max.code 2 (some .int), Cond.methodLink RX2 65 yX2_lowerDegree, Cond.instanceMethod yX2_lowerDegree, Cond.selects RX2 yX2_lowerDegree yX2_lowerDegree, Cond.initialized RX2, Cond.code yX2_lowerDegree cX2_lowerDegree 7 none, Cond.methodLink RX2 72 yX2_lowerLine, Cond.instanceMethod yX2_lowerLine, Cond.selects RX2 yX2_lowerLine yX2_lowerLine, Cond.code yX2_lowerLine cX2_lowerLine 10 none, Cond.methodLink RX2 76 Lib.Math.min.name, Cond.static Lib.Math.min.name, Cond.code Lib.Math.min.name Lib.Math.min.code 2 (some .int), Cond.methodLink RX2 79 yX2_pairCell, Cond.static yX2_pairCell, Cond.code yX2_pairCell cX2_pairCell 4 (some .int), Cond.methodLink RX2 61 yX2_at, Cond.instanceMethod yX2_at, Cond.selects RX2 yX2_at yX2_at, Cond.code yX2_at cX2_at 2 (some .long)]
def wsX2_differ_r2 : List Cond := [Cond.fieldLink RX2 9 "SchubertDesk$Grid" "cell" "[J", Cond.methodLink RX2 82 yX2_put, Cond.instanceMethod yX2_put, Cond.selects RX2 yX2_put yX2_put, Cond.code yX2_put cX2_put 4 none]
def wsX2_differ : List Cond := .code yX2_differ cX2_differ 5 none :: ((wsX2_differ_r1 ++ wsX2_differ_r2) ++ wsX20)
def wsX3_init_r1 : List Cond := [Cond.methodLink RX3 3 objectInit, Cond.instanceMethod objectInit, Cond.code objectInit ⟨#[0xb1]⟩ 1 none, Cond.classLink RX3 9 RX2, Cond.instantiable RX2 2, Cond.initialized RX2, Cond.fieldLink RX3 12 "SchubertDesk$Parts" "counts" "LSchubertDesk$Grid;", Cond.classLink RX3 18 RX0, Cond.instantiable RX0 2, Cond.initialized RX0, Cond.fieldLink RX3 23 "SchubertDesk$Parts" "numbers" "LSchubertDesk$Ascending;", Cond.fieldLink RX3 27 "SchubertDesk$Parts" "known" "Z", Cond.instanceMethod yX2_init, Cond.code yX2_init cX2_init 1 none, Cond.methodLink RX2 3 objectInit, Cond.arrayClass .long, Cond.fieldLink RX2 9 "SchubertDesk$Grid" "cell" "[J", Cond.arrayClass .int, Cond.fieldLink RX2 15 "SchubertDesk$Grid" "top" "[I", Cond.methodLink RX3 20 yX0_init, Cond.instanceMethod yX0_init, Cond.code yX0_init cX0_init 2 none, Cond.methodLink RX0 3 objectInit, Cond.fieldLink RX0 9 "SchubertDesk$Ascending" "size" "I"]
def wsX3_init_r2 : List Cond := [Cond.methodLink RX0 15 Lib.Math.max.name, Cond.static Lib.Math.max.name, Cond.initialized "java/lang/Math", Cond.code Lib.Math.max.name Lib.Math.max.code 2 (some .int), Cond.fieldLink RX0 21 "SchubertDesk$Ascending" "items" "[I"]
def wsX3_init : List Cond := .code yX3_init cX3_init 1 none :: ((wsX3_init_r1 ++ wsX3_init_r2) ++ wsX20 ++ wsX30 ++ wsX00)
def wsX3_forget : List Cond := .code yX3_forget cX3_forget 1 none :: ([.fieldLink RX3 27 "SchubertDesk$Parts" "known" "Z"] ++ wsX30)
def wsX4_firstRise : List Cond := .code yX4_firstRise cX4_firstRise 2 (some .int) :: ([.fieldLink RX4 18 "SchubertDesk$Single" "code" "[I"] ++ wsX40)
def wsX4_exchangeAt : List Cond := .code yX4_exchangeAt cX4_exchangeAt 3 none :: ([.fieldLink RX4 18 "SchubertDesk$Single" "code" "[I"] ++ wsX40)
def wsX4_climb : List Cond := .code yX4_climb cX4_climb 3 (some .int) :: ([.fieldLink RX4 22 "SchubertDesk$Single" "way" "[I", .methodLink RX4 49 yX4_firstRise, .instanceMethod yX4_firstRise, .selects RX4 yX4_firstRise yX4_firstRise, .initialized RX4, .code yX4_firstRise cX4_firstRise 2 (some .int), .fieldLink RX4 18 "SchubertDesk$Single" "code" "[I", .methodLink RX4 52 yX4_exchangeAt, .instanceMethod yX4_exchangeAt, .selects RX4 yX4_exchangeAt yX4_exchangeAt, .code yX4_exchangeAt cX4_exchangeAt 3 none] ++ wsX40)
def wsX4_make_r1 : List Cond := [Cond.fieldLink RX4 25 "SchubertDesk$Single" "made" "I", Cond.fieldLink RX4 18 "SchubertDesk$Single" "code" "[I", Cond.fieldLink RX4 12 "SchubertDesk$Single" "grid" "LSchubertDesk$Grid;", Cond.fieldLink RX4 22 "SchubertDesk$Single" "way" "[I", Cond.static yX5_exponentAt, Cond.initialized RX5, Cond.code yX5_exponentAt cX5_exponentAt 2 (some .int), Cond.methodLink RX4 33 yX4_climb, Cond.instanceMethod yX4_climb, Cond.selects RX4 yX4_climb yX4_climb, Cond.initialized RX4, Cond.code yX4_climb cX4_climb 3 (some .int), Cond.methodLink RX4 49 yX4_firstRise, Cond.instanceMethod yX4_firstRise, Cond.selects RX4 yX4_firstRise yX4_firstRise, Cond.code yX4_firstRise cX4_firstRise 2 (some .int), Cond.methodLink RX4 52 yX4_exchangeAt, Cond.instanceMethod yX4_exchangeAt, Cond.selects RX4 yX4_exchangeAt yX4_exchangeAt, Cond.code yX4_exchangeAt cX4_exchangeAt 3 none, Cond.static yX5_cellOf, Cond.code yX5_cellOf cX5_cellOf 4 (some .int), Cond.methodLink RX5 105 yX5_isAnyNegative, Cond.static yX5_isAnyNegative]
def wsX4_make_r2 : List Cond := [Cond.code yX5_isAnyNegative cX5_isAnyNegative 4 (some .boolean), Cond.methodLink RX4 41 yX2_becomeMonomial, Cond.instanceMethod yX2_becomeMonomial, Cond.selects RX2 yX2_becomeMonomial yX2_becomeMonomial, Cond.initialized RX2, Cond.code yX2_becomeMonomial cX2_becomeMonomial 3 none, Cond.fieldLink RX2 9 "SchubertDesk$Grid" "cell" "[J", Cond.fieldLink RX2 15 "SchubertDesk$Grid" "top" "[I", Cond.methodLink RX2 35 yX2_clear, Cond.instanceMethod yX2_clear, Cond.selects RX2 yX2_clear yX2_clear, Cond.code yX2_clear cX2_clear 1 none, Cond.methodLink RX2 19 yJ7_fill_d0a16, Cond.static yJ7_fill_d0a16, Cond.initialized RJ7, Cond.code yJ7_fill_d0a16 cJ7_fill_d0a16 5 none, Cond.methodLink RX4 45 yX2_differ, Cond.instanceMethod yX2_differ, Cond.selects RX2 yX2_differ yX2_differ, Cond.code yX2_differ cX2_differ 5 none, Cond.methodLink RX2 45 Lib.Math.max.name, Cond.static Lib.Math.max.name, Cond.initialized "java/lang/Math", Cond.code Lib.Math.max.name Lib.Math.max.code 2 (some .int)]
def wsX4_make_r3 : List Cond := [Cond.methodLink RX2 65 yX2_lowerDegree, Cond.instanceMethod yX2_lowerDegree, Cond.selects RX2 yX2_lowerDegree yX2_lowerDegree, Cond.code yX2_lowerDegree cX2_lowerDegree 7 none, Cond.methodLink RX2 72 yX2_lowerLine, Cond.instanceMethod yX2_lowerLine, Cond.selects RX2 yX2_lowerLine yX2_lowerLine, Cond.code yX2_lowerLine cX2_lowerLine 10 none, Cond.methodLink RX2 76 Lib.Math.min.name, Cond.static Lib.Math.min.name, Cond.code Lib.Math.min.name Lib.Math.min.code 2 (some .int), Cond.methodLink RX2 79 yX2_pairCell, Cond.static yX2_pairCell, Cond.code yX2_pairCell cX2_pairCell 4 (some .int), Cond.methodLink RX2 61 yX2_at, Cond.instanceMethod yX2_at, Cond.selects RX2 yX2_at yX2_at, Cond.code yX2_at cX2_at 2 (some .long), Cond.methodLink RX2 82 yX2_put, Cond.instanceMethod yX2_put, Cond.selects RX2 yX2_put yX2_put, Cond.code yX2_put cX2_put 4 none]
def wsX4_make : List Cond := .code yX4_make cX4_make 5 none :: ((wsX4_make_r1 ++ (wsX4_make_r2 ++ wsX4_make_r3)) ++ wsX40 ++ wsX20)
def wsX3_find_r1 : List Cond := [Cond.fieldLink RX3 27 "SchubertDesk$Parts" "known" "Z", Cond.fieldLink RX3 12 "SchubertDesk$Parts" "counts" "LSchubertDesk$Grid;", Cond.fieldLink RX3 23 "SchubertDesk$Parts" "numbers" "LSchubertDesk$Ascending;", Cond.fieldLink RX3 47 "SchubertDesk$Single" "grid" "LSchubertDesk$Grid;", Cond.methodLink RX3 31 yX2_copy, Cond.instanceMethod yX2_copy, Cond.selects RX2 yX2_copy yX2_copy, Cond.initialized RX2, Cond.code yX2_copy cX2_copy 2 none, Cond.fieldLink RX2 9 "SchubertDesk$Grid" "cell" "[J", Cond.methodLink RX2 25 arraycopyName, Cond.native arraycopyName, Cond.static arraycopyName, Cond.initialized "java/lang/System", Cond.methodLink RX3 35 yX0_clear, Cond.instanceMethod yX0_clear, Cond.selects RX0 yX0_clear yX0_clear, Cond.initialized RX0, Cond.code yX0_clear cX0_clear 1 none, Cond.fieldLink RX0 9 "SchubertDesk$Ascending" "size" "I", Cond.methodLink RX3 38 yX2_at, Cond.instanceMethod yX2_at, Cond.selects RX2 yX2_at yX2_at, Cond.code yX2_at cX2_at 2 (some .long)]
def wsX3_find_r2 : List Cond := [Cond.methodLink RX3 42 yX4_make, Cond.instanceMethod yX4_make, Cond.selects RX4 yX4_make yX4_make, Cond.initialized RX4, Cond.code yX4_make cX4_make 5 none, Cond.fieldLink RX4 25 "SchubertDesk$Single" "made" "I", Cond.fieldLink RX4 18 "SchubertDesk$Single" "code" "[I", Cond.fieldLink RX4 12 "SchubertDesk$Single" "grid" "LSchubertDesk$Grid;", Cond.fieldLink RX4 22 "SchubertDesk$Single" "way" "[I", Cond.static yX5_exponentAt, Cond.initialized RX5, Cond.code yX5_exponentAt cX5_exponentAt 2 (some .int), Cond.methodLink RX4 33 yX4_climb, Cond.instanceMethod yX4_climb, Cond.selects RX4 yX4_climb yX4_climb, Cond.code yX4_climb cX4_climb 3 (some .int), Cond.methodLink RX4 49 yX4_firstRise, Cond.instanceMethod yX4_firstRise, Cond.selects RX4 yX4_firstRise yX4_firstRise, Cond.code yX4_firstRise cX4_firstRise 2 (some .int), Cond.methodLink RX4 52 yX4_exchangeAt, Cond.instanceMethod yX4_exchangeAt, Cond.selects RX4 yX4_exchangeAt yX4_exchangeAt, Cond.code yX4_exchangeAt cX4_exchangeAt 3 none]
def wsX3_find_r3 : List Cond := [Cond.static yX5_cellOf, Cond.code yX5_cellOf cX5_cellOf 4 (some .int), Cond.methodLink RX5 105 yX5_isAnyNegative, Cond.static yX5_isAnyNegative, Cond.code yX5_isAnyNegative cX5_isAnyNegative 4 (some .boolean), Cond.methodLink RX4 41 yX2_becomeMonomial, Cond.instanceMethod yX2_becomeMonomial, Cond.selects RX2 yX2_becomeMonomial yX2_becomeMonomial, Cond.code yX2_becomeMonomial cX2_becomeMonomial 3 none, Cond.fieldLink RX2 15 "SchubertDesk$Grid" "top" "[I", Cond.methodLink RX2 35 yX2_clear, Cond.instanceMethod yX2_clear, Cond.selects RX2 yX2_clear yX2_clear, Cond.code yX2_clear cX2_clear 1 none, Cond.methodLink RX2 19 yJ7_fill_d0a16, Cond.static yJ7_fill_d0a16, Cond.initialized RJ7, Cond.code yJ7_fill_d0a16 cJ7_fill_d0a16 5 none, Cond.methodLink RX4 45 yX2_differ, Cond.instanceMethod yX2_differ, Cond.selects RX2 yX2_differ yX2_differ, Cond.code yX2_differ cX2_differ 5 none, Cond.methodLink RX2 45 Lib.Math.max.name, Cond.static Lib.Math.max.name]
def wsX3_find_r4 : List Cond := [Cond.initialized "java/lang/Math", Cond.code Lib.Math.max.name Lib.Math.max.code 2 (some .int), Cond.methodLink RX2 65 yX2_lowerDegree, Cond.instanceMethod yX2_lowerDegree, Cond.selects RX2 yX2_lowerDegree yX2_lowerDegree, Cond.code yX2_lowerDegree cX2_lowerDegree 7 none, Cond.methodLink RX2 72 yX2_lowerLine, Cond.instanceMethod yX2_lowerLine, Cond.selects RX2 yX2_lowerLine yX2_lowerLine, Cond.code yX2_lowerLine cX2_lowerLine 10 none, Cond.methodLink RX2 76 Lib.Math.min.name, Cond.static Lib.Math.min.name, Cond.code Lib.Math.min.name Lib.Math.min.code 2 (some .int), Cond.methodLink RX2 79 yX2_pairCell, Cond.static yX2_pairCell, Cond.code yX2_pairCell cX2_pairCell 4 (some .int), Cond.methodLink RX2 61 yX2_at, Cond.methodLink RX2 82 yX2_put, Cond.instanceMethod yX2_put, Cond.selects RX2 yX2_put yX2_put, Cond.code yX2_put cX2_put 4 none, Cond.methodLink RX3 50 yX2_addTimes, Cond.instanceMethod yX2_addTimes, Cond.selects RX2 yX2_addTimes yX2_addTimes]
def wsX3_find_r5 : List Cond := [Cond.code yX2_addTimes cX2_addTimes 6 none, Cond.methodLink RX3 54 yX1_becomeOfCode, Cond.instanceMethod yX1_becomeOfCode, Cond.selects RX1 yX1_becomeOfCode yX1_becomeOfCode, Cond.initialized RX1, Cond.code yX1_becomeOfCode cX1_becomeOfCode 5 none, Cond.fieldLink RX1 9 "SchubertDesk$Digits" "row" "[I", Cond.methodLink RX1 31 yX1_unusedAbove, Cond.static yX1_unusedAbove, Cond.code yX1_unusedAbove cX1_unusedAbove 4 (some .int), Cond.methodLink RX3 59 yX1_plainNumber, Cond.instanceMethod yX1_plainNumber, Cond.selects RX1 yX1_plainNumber yX1_plainNumber, Cond.code yX1_plainNumber cX1_plainNumber 4 (some .int), Cond.methodLink RX1 43 yX1_plainCount, Cond.instanceMethod yX1_plainCount, Cond.selects RX1 yX1_plainCount yX1_plainCount, Cond.code yX1_plainCount cX1_plainCount 2 (some .int), Cond.methodLink RX3 63 yX0_put, Cond.instanceMethod yX0_put, Cond.selects RX0 yX0_put yX0_put, Cond.code yX0_put cX0_put 4 none, Cond.fieldLink RX0 21 "SchubertDesk$Ascending" "items" "[I", Cond.methodLink RX0 25 arraycopyName]
def wsX3_find : List Cond := .code yX3_find cX3_find 7 none :: ((wsX3_find_r1 ++ (wsX3_find_r2 ++ (wsX3_find_r3 ++ (wsX3_find_r4 ++ wsX3_find_r5)))) ++ wsX30 ++ wsX40 ++ wsX20 ++ wsX00 ++ wsX10)
def wsX4_init : List Cond := .code yX4_init cX4_init 1 none :: ([.methodLink RX4 3 objectInit, .instanceMethod objectInit, .code objectInit ⟨#[0xb1]⟩ 1 none, .classLink RX4 9 RX2, .instantiable RX2 2, .initialized RX2, .fieldLink RX4 12 "SchubertDesk$Single" "grid" "LSchubertDesk$Grid;", .arrayClass .int, .fieldLink RX4 18 "SchubertDesk$Single" "code" "[I", .fieldLink RX4 22 "SchubertDesk$Single" "way" "[I", .fieldLink RX4 25 "SchubertDesk$Single" "made" "I", .instanceMethod yX2_init, .code yX2_init cX2_init 1 none, .methodLink RX2 3 objectInit, .arrayClass .long, .fieldLink RX2 9 "SchubertDesk$Grid" "cell" "[J", .fieldLink RX2 15 "SchubertDesk$Grid" "top" "[I"] ++ wsX20 ++ wsX40)
def wsX5_init_r1 : List Cond := [Cond.methodLink RX5 3 objectInit, Cond.instanceMethod objectInit, Cond.code objectInit ⟨#[0xb1]⟩ 1 none, Cond.classLink RX5 9 RX1, Cond.instantiable RX1 1, Cond.initialized RX1, Cond.fieldLink RX5 12 "SchubertDesk" "first" "LSchubertDesk$Digits;", Cond.fieldLink RX5 18 "SchubertDesk" "second" "LSchubertDesk$Digits;", Cond.fieldLink RX5 21 "SchubertDesk" "third" "LSchubertDesk$Digits;", Cond.classLink RX5 24 RX0, Cond.instantiable RX0 2, Cond.initialized RX0, Cond.fieldLink RX5 29 "SchubertDesk" "list" "LSchubertDesk$Ascending;", Cond.classLink RX5 33 RX2, Cond.instantiable RX2 2, Cond.initialized RX2, Cond.fieldLink RX5 36 "SchubertDesk" "page" "LSchubertDesk$Grid;", Cond.fieldLink RX5 40 "SchubertDesk" "draft" "LSchubertDesk$Grid;", Cond.classLink RX5 43 RX4, Cond.instantiable RX4 4, Cond.initialized RX4, Cond.fieldLink RX5 46 "SchubertDesk" "single" "LSchubertDesk$Single;", Cond.classLink RX5 50 RX3, Cond.instantiable RX3 3]
def wsX5_init_r2 : List Cond := [Cond.initialized RX3, Cond.fieldLink RX5 53 "SchubertDesk" "parts" "LSchubertDesk$Parts;", Cond.instanceMethod yX1_init, Cond.code yX1_init cX1_init 1 none, Cond.methodLink RX1 3 objectInit, Cond.arrayClass .int, Cond.fieldLink RX1 9 "SchubertDesk$Digits" "row" "[I", Cond.methodLink RX5 26 yX0_init, Cond.instanceMethod yX0_init, Cond.code yX0_init cX0_init 2 none, Cond.methodLink RX0 3 objectInit, Cond.fieldLink RX0 9 "SchubertDesk$Ascending" "size" "I", Cond.methodLink RX0 15 Lib.Math.max.name, Cond.static Lib.Math.max.name, Cond.initialized "java/lang/Math", Cond.code Lib.Math.max.name Lib.Math.max.code 2 (some .int), Cond.fieldLink RX0 21 "SchubertDesk$Ascending" "items" "[I", Cond.instanceMethod yX2_init, Cond.code yX2_init cX2_init 1 none, Cond.methodLink RX2 3 objectInit, Cond.arrayClass .long, Cond.fieldLink RX2 9 "SchubertDesk$Grid" "cell" "[J", Cond.fieldLink RX2 15 "SchubertDesk$Grid" "top" "[I", Cond.instanceMethod yX4_init]
def wsX5_init_r3 : List Cond := [Cond.code yX4_init cX4_init 1 none, Cond.methodLink RX4 3 objectInit, Cond.classLink RX4 9 RX2, Cond.fieldLink RX4 12 "SchubertDesk$Single" "grid" "LSchubertDesk$Grid;", Cond.fieldLink RX4 18 "SchubertDesk$Single" "code" "[I", Cond.fieldLink RX4 22 "SchubertDesk$Single" "way" "[I", Cond.fieldLink RX4 25 "SchubertDesk$Single" "made" "I", Cond.instanceMethod yX3_init, Cond.code yX3_init cX3_init 1 none, Cond.methodLink RX3 3 objectInit, Cond.classLink RX3 9 RX2, Cond.fieldLink RX3 12 "SchubertDesk$Parts" "counts" "LSchubertDesk$Grid;", Cond.classLink RX3 18 RX0, Cond.fieldLink RX3 23 "SchubertDesk$Parts" "numbers" "LSchubertDesk$Ascending;", Cond.fieldLink RX3 27 "SchubertDesk$Parts" "known" "Z", Cond.methodLink RX3 20 yX0_init]
def wsX5_init : List Cond := .code yX5_init cX5_init 1 none :: ((wsX5_init_r1 ++ (wsX5_init_r2 ++ wsX5_init_r3)) ++ wsX10 ++ wsX50 ++ wsX00 ++ wsX20 ++ wsX40 ++ wsX30)
def wsX5_plain : List Cond := .code yX5_plain cX5_plain 2 (some .int) :: ([.fieldLink RX5 12 "SchubertDesk" "first" "LSchubertDesk$Digits;", .methodLink RX5 57 yX1_read, .instanceMethod yX1_read, .selects RX1 yX1_read yX1_read, .initialized RX1, .code yX1_read cX1_read 7 (some .boolean), .constant RX1 15 (987654321), .fieldLink RX1 9 "SchubertDesk$Digits" "row" "[I", .methodLink RX1 16 yX1_stayInPlace, .instanceMethod yX1_stayInPlace, .selects RX1 yX1_stayInPlace yX1_stayInPlace, .code yX1_stayInPlace cX1_stayInPlace 2 none, .methodLink RX5 61 yX1_plainNumber, .instanceMethod yX1_plainNumber, .selects RX1 yX1_plainNumber yX1_plainNumber, .code yX1_plainNumber cX1_plainNumber 4 (some .int), .methodLink RX1 43 yX1_plainCount, .instanceMethod yX1_plainCount, .selects RX1 yX1_plainCount yX1_plainCount, .code yX1_plainCount cX1_plainCount 2 (some .int)] ++ wsX50 ++ wsX10)
def wsX5_length : List Cond := .code yX5_length cX5_length 2 (some .int) :: ([.fieldLink RX5 12 "SchubertDesk" "first" "LSchubertDesk$Digits;", .methodLink RX5 57 yX1_read, .instanceMethod yX1_read, .selects RX1 yX1_read yX1_read, .initialized RX1, .code yX1_read cX1_read 7 (some .boolean), .constant RX1 15 (987654321), .fieldLink RX1 9 "SchubertDesk$Digits" "row" "[I", .methodLink RX1 16 yX1_stayInPlace, .instanceMethod yX1_stayInPlace, .selects RX1 yX1_stayInPlace yX1_stayInPlace, .code yX1_stayInPlace cX1_stayInPlace 2 none, .methodLink RX5 65 yX1_inversions, .instanceMethod yX1_inversions, .selects RX1 yX1_inversions yX1_inversions, .code yX1_inversions cX1_inversions 3 (some .int), .methodLink RX1 47 yX1_codeAt, .instanceMethod yX1_codeAt, .selects RX1 yX1_codeAt yX1_codeAt, .code yX1_codeAt cX1_codeAt 4 (some .int), .methodLink RX1 19 yX1_digit, .instanceMethod yX1_digit, .selects RX1 yX1_digit yX1_digit, .code yX1_digit cX1_digit 2 (some .int)] ++ wsX50 ++ wsX10)
def wsX5_code : List Cond := .code yX5_code cX5_code 3 (some .int) :: ([.fieldLink RX5 12 "SchubertDesk" "first" "LSchubertDesk$Digits;", .methodLink RX5 57 yX1_read, .instanceMethod yX1_read, .selects RX1 yX1_read yX1_read, .initialized RX1, .code yX1_read cX1_read 7 (some .boolean), .constant RX1 15 (987654321), .fieldLink RX1 9 "SchubertDesk$Digits" "row" "[I", .methodLink RX1 16 yX1_stayInPlace, .instanceMethod yX1_stayInPlace, .selects RX1 yX1_stayInPlace yX1_stayInPlace, .code yX1_stayInPlace cX1_stayInPlace 2 none, .methodLink RX5 68 yX1_codeAt, .instanceMethod yX1_codeAt, .selects RX1 yX1_codeAt yX1_codeAt, .code yX1_codeAt cX1_codeAt 4 (some .int), .methodLink RX1 19 yX1_digit, .instanceMethod yX1_digit, .selects RX1 yX1_digit yX1_digit, .code yX1_digit cX1_digit 2 (some .int)] ++ wsX50 ++ wsX10)
def wsX5_descents : List Cond := .code yX5_descents cX5_descents 2 (some .int) :: ([.fieldLink RX5 12 "SchubertDesk" "first" "LSchubertDesk$Digits;", .methodLink RX5 57 yX1_read, .instanceMethod yX1_read, .selects RX1 yX1_read yX1_read, .initialized RX1, .code yX1_read cX1_read 7 (some .boolean), .constant RX1 15 (987654321), .fieldLink RX1 9 "SchubertDesk$Digits" "row" "[I", .methodLink RX1 16 yX1_stayInPlace, .instanceMethod yX1_stayInPlace, .selects RX1 yX1_stayInPlace yX1_stayInPlace, .code yX1_stayInPlace cX1_stayInPlace 2 none, .methodLink RX5 72 yX1_descentSet, .instanceMethod yX1_descentSet, .selects RX1 yX1_descentSet yX1_descentSet, .code yX1_descentSet cX1_descentSet 3 (some .int)] ++ wsX50 ++ wsX10)
def wsX5_inverse_r1 : List Cond := [Cond.fieldLink RX5 12 "SchubertDesk" "first" "LSchubertDesk$Digits;", Cond.fieldLink RX5 18 "SchubertDesk" "second" "LSchubertDesk$Digits;", Cond.methodLink RX5 57 yX1_read, Cond.instanceMethod yX1_read, Cond.selects RX1 yX1_read yX1_read, Cond.initialized RX1, Cond.code yX1_read cX1_read 7 (some .boolean), Cond.constant RX1 15 (987654321), Cond.fieldLink RX1 9 "SchubertDesk$Digits" "row" "[I", Cond.methodLink RX1 16 yX1_stayInPlace, Cond.instanceMethod yX1_stayInPlace, Cond.selects RX1 yX1_stayInPlace yX1_stayInPlace, Cond.code yX1_stayInPlace cX1_stayInPlace 2 none, Cond.methodLink RX5 75 yX1_becomeInverse, Cond.instanceMethod yX1_becomeInverse, Cond.selects RX1 yX1_becomeInverse yX1_becomeInverse, Cond.code yX1_becomeInverse cX1_becomeInverse 3 none, Cond.methodLink RX1 19 yX1_digit, Cond.instanceMethod yX1_digit, Cond.selects RX1 yX1_digit yX1_digit, Cond.code yX1_digit cX1_digit 2 (some .int), Cond.methodLink RX1 23 yX1_put, Cond.instanceMethod yX1_put, Cond.selects RX1 yX1_put yX1_put]
def wsX5_inverse_r2 : List Cond := [Cond.code yX1_put cX1_put 3 none, Cond.methodLink RX5 61 yX1_plainNumber, Cond.instanceMethod yX1_plainNumber, Cond.selects RX1 yX1_plainNumber yX1_plainNumber, Cond.code yX1_plainNumber cX1_plainNumber 4 (some .int), Cond.methodLink RX1 43 yX1_plainCount, Cond.instanceMethod yX1_plainCount, Cond.selects RX1 yX1_plainCount yX1_plainCount, Cond.code yX1_plainCount cX1_plainCount 2 (some .int)]
def wsX5_inverse : List Cond := .code yX5_inverse cX5_inverse 2 (some .int) :: ((wsX5_inverse_r1 ++ wsX5_inverse_r2) ++ wsX50 ++ wsX10)
def wsX5_after_r1 : List Cond := [Cond.fieldLink RX5 12 "SchubertDesk" "first" "LSchubertDesk$Digits;", Cond.fieldLink RX5 18 "SchubertDesk" "second" "LSchubertDesk$Digits;", Cond.fieldLink RX5 21 "SchubertDesk" "third" "LSchubertDesk$Digits;", Cond.methodLink RX5 57 yX1_read, Cond.instanceMethod yX1_read, Cond.selects RX1 yX1_read yX1_read, Cond.initialized RX1, Cond.code yX1_read cX1_read 7 (some .boolean), Cond.constant RX1 15 (987654321), Cond.fieldLink RX1 9 "SchubertDesk$Digits" "row" "[I", Cond.methodLink RX1 16 yX1_stayInPlace, Cond.instanceMethod yX1_stayInPlace, Cond.selects RX1 yX1_stayInPlace yX1_stayInPlace, Cond.code yX1_stayInPlace cX1_stayInPlace 2 none, Cond.methodLink RX5 79 yX1_becomeProduct, Cond.instanceMethod yX1_becomeProduct, Cond.selects RX1 yX1_becomeProduct yX1_becomeProduct, Cond.code yX1_becomeProduct cX1_becomeProduct 4 none, Cond.methodLink RX1 19 yX1_digit, Cond.instanceMethod yX1_digit, Cond.selects RX1 yX1_digit yX1_digit, Cond.code yX1_digit cX1_digit 2 (some .int), Cond.methodLink RX5 61 yX1_plainNumber, Cond.instanceMethod yX1_plainNumber]
def wsX5_after_r2 : List Cond := [Cond.selects RX1 yX1_plainNumber yX1_plainNumber, Cond.code yX1_plainNumber cX1_plainNumber 4 (some .int), Cond.methodLink RX1 43 yX1_plainCount, Cond.instanceMethod yX1_plainCount, Cond.selects RX1 yX1_plainCount yX1_plainCount, Cond.code yX1_plainCount cX1_plainCount 2 (some .int)]
def wsX5_after : List Cond := .code yX5_after cX5_after 3 (some .int) :: ((wsX5_after_r1 ++ wsX5_after_r2) ++ wsX50 ++ wsX10)
def wsX5_ofCode_r1 : List Cond := [Cond.fieldLink RX5 12 "SchubertDesk" "first" "LSchubertDesk$Digits;", Cond.methodLink RX5 83 yX5_cellOf, Cond.static yX5_cellOf, Cond.initialized RX5, Cond.code yX5_cellOf cX5_cellOf 4 (some .int), Cond.methodLink RX5 105 yX5_isAnyNegative, Cond.static yX5_isAnyNegative, Cond.code yX5_isAnyNegative cX5_isAnyNegative 4 (some .boolean), Cond.methodLink RX5 87 yX1_becomeOfCode, Cond.instanceMethod yX1_becomeOfCode, Cond.selects RX1 yX1_becomeOfCode yX1_becomeOfCode, Cond.initialized RX1, Cond.code yX1_becomeOfCode cX1_becomeOfCode 5 none, Cond.fieldLink RX1 9 "SchubertDesk$Digits" "row" "[I", Cond.static yX5_exponentAt, Cond.code yX5_exponentAt cX5_exponentAt 2 (some .int), Cond.methodLink RX1 31 yX1_unusedAbove, Cond.static yX1_unusedAbove, Cond.code yX1_unusedAbove cX1_unusedAbove 4 (some .int), Cond.methodLink RX5 61 yX1_plainNumber, Cond.instanceMethod yX1_plainNumber, Cond.selects RX1 yX1_plainNumber yX1_plainNumber, Cond.code yX1_plainNumber cX1_plainNumber 4 (some .int), Cond.methodLink RX1 43 yX1_plainCount]
def wsX5_ofCode_r2 : List Cond := [Cond.instanceMethod yX1_plainCount, Cond.selects RX1 yX1_plainCount yX1_plainCount, Cond.code yX1_plainCount cX1_plainCount 2 (some .int)]
def wsX5_ofCode : List Cond := .code yX5_ofCode cX5_ofCode 6 (some .int) :: ((wsX5_ofCode_r1 ++ wsX5_ofCode_r2) ++ wsX50 ++ wsX10)
def wsX5_below : List Cond := .code yX5_below cX5_below 3 (some .int) :: ([.fieldLink RX5 12 "SchubertDesk" "first" "LSchubertDesk$Digits;", .fieldLink RX5 18 "SchubertDesk" "second" "LSchubertDesk$Digits;", .methodLink RX5 57 yX1_read, .instanceMethod yX1_read, .selects RX1 yX1_read yX1_read, .initialized RX1, .code yX1_read cX1_read 7 (some .boolean), .constant RX1 15 (987654321), .fieldLink RX1 9 "SchubertDesk$Digits" "row" "[I", .methodLink RX1 16 yX1_stayInPlace, .instanceMethod yX1_stayInPlace, .selects RX1 yX1_stayInPlace yX1_stayInPlace, .code yX1_stayInPlace cX1_stayInPlace 2 none, .methodLink RX5 90 yX1_isBelow, .instanceMethod yX1_isBelow, .selects RX1 yX1_isBelow yX1_isBelow, .code yX1_isBelow cX1_isBelow 5 (some .boolean)] ++ wsX50 ++ wsX10)
def wsX5_waysDown : List Cond := .code yX5_waysDown cX5_waysDown 5 (some .int) :: ([.methodLink RX5 212 yX1_digit, .instanceMethod yX1_digit, .selects RX1 yX1_digit yX1_digit, .initialized RX1, .code yX1_digit cX1_digit 2 (some .int), .fieldLink RX1 9 "SchubertDesk$Digits" "row" "[I", .methodLink RX5 208 yX1_exchange, .instanceMethod yX1_exchange, .selects RX1 yX1_exchange yX1_exchange, .code yX1_exchange cX1_exchange 4 none, .methodLink RX1 19 yX1_digit, .methodLink RX1 23 yX1_put, .instanceMethod yX1_put, .selects RX1 yX1_put yX1_put, .code yX1_put cX1_put 3 none, .methodLink RX5 98 yX5_waysDown, .static yX5_waysDown, .initialized RX5] ++ wsX10)
def wsX5_words_r1 : List Cond := [Cond.fieldLink RX5 12 "SchubertDesk" "first" "LSchubertDesk$Digits;", Cond.methodLink RX5 57 yX1_read, Cond.instanceMethod yX1_read, Cond.selects RX1 yX1_read yX1_read, Cond.initialized RX1, Cond.code yX1_read cX1_read 7 (some .boolean), Cond.constant RX1 15 (987654321), Cond.fieldLink RX1 9 "SchubertDesk$Digits" "row" "[I", Cond.methodLink RX1 16 yX1_stayInPlace, Cond.instanceMethod yX1_stayInPlace, Cond.selects RX1 yX1_stayInPlace yX1_stayInPlace, Cond.code yX1_stayInPlace cX1_stayInPlace 2 none, Cond.methodLink RX5 94 yX1_isSmall, Cond.instanceMethod yX1_isSmall, Cond.selects RX1 yX1_isSmall yX1_isSmall, Cond.code yX1_isSmall cX1_isSmall 1 (some .boolean), Cond.methodLink RX1 43 yX1_plainCount, Cond.instanceMethod yX1_plainCount, Cond.selects RX1 yX1_plainCount yX1_plainCount, Cond.code yX1_plainCount cX1_plainCount 2 (some .int), Cond.methodLink RX5 98 yX5_waysDown, Cond.static yX5_waysDown, Cond.initialized RX5, Cond.code yX5_waysDown cX5_waysDown 5 (some .int)]
def wsX5_words_r2 : List Cond := [Cond.methodLink RX5 212 yX1_digit, Cond.instanceMethod yX1_digit, Cond.selects RX1 yX1_digit yX1_digit, Cond.code yX1_digit cX1_digit 2 (some .int), Cond.methodLink RX5 208 yX1_exchange, Cond.instanceMethod yX1_exchange, Cond.selects RX1 yX1_exchange yX1_exchange, Cond.code yX1_exchange cX1_exchange 4 none, Cond.methodLink RX1 19 yX1_digit, Cond.methodLink RX1 23 yX1_put, Cond.instanceMethod yX1_put, Cond.selects RX1 yX1_put yX1_put, Cond.code yX1_put cX1_put 3 none]
def wsX5_words : List Cond := .code yX5_words cX5_words 2 (some .int) :: ((wsX5_words_r1 ++ wsX5_words_r2) ++ wsX50 ++ wsX10)
def wsX5_fitCell_r1 : List Cond := [Cond.fieldLink RX5 12 "SchubertDesk" "first" "LSchubertDesk$Digits;", Cond.methodLink RX5 57 yX1_read, Cond.instanceMethod yX1_read, Cond.selects RX1 yX1_read yX1_read, Cond.initialized RX1, Cond.code yX1_read cX1_read 7 (some .boolean), Cond.constant RX1 15 (987654321), Cond.fieldLink RX1 9 "SchubertDesk$Digits" "row" "[I", Cond.methodLink RX1 16 yX1_stayInPlace, Cond.instanceMethod yX1_stayInPlace, Cond.selects RX1 yX1_stayInPlace yX1_stayInPlace, Cond.code yX1_stayInPlace cX1_stayInPlace 2 none, Cond.methodLink RX5 221 yX1_isFit, Cond.instanceMethod yX1_isFit, Cond.selects RX1 yX1_isFit yX1_isFit, Cond.code yX1_isFit cX1_isFit 1 (some .boolean), Cond.methodLink RX1 54 yX1_lastDescent, Cond.instanceMethod yX1_lastDescent, Cond.selects RX1 yX1_lastDescent yX1_lastDescent, Cond.code yX1_lastDescent cX1_lastDescent 3 (some .int), Cond.methodLink RX5 224 yX1_codeCell, Cond.instanceMethod yX1_codeCell, Cond.selects RX1 yX1_codeCell yX1_codeCell, Cond.code yX1_codeCell cX1_codeCell 1 (some .int)]
def wsX5_fitCell_r2 : List Cond := [Cond.methodLink RX1 47 yX1_codeAt, Cond.instanceMethod yX1_codeAt, Cond.selects RX1 yX1_codeAt yX1_codeAt, Cond.code yX1_codeAt cX1_codeAt 4 (some .int), Cond.methodLink RX1 19 yX1_digit, Cond.instanceMethod yX1_digit, Cond.selects RX1 yX1_digit yX1_digit, Cond.code yX1_digit cX1_digit 2 (some .int), Cond.static yX5_cellOf, Cond.initialized RX5, Cond.code yX5_cellOf cX5_cellOf 4 (some .int), Cond.methodLink RX5 105 yX5_isAnyNegative, Cond.static yX5_isAnyNegative, Cond.code yX5_isAnyNegative cX5_isAnyNegative 4 (some .boolean)]
def wsX5_fitCell : List Cond := .code yX5_fitCell cX5_fitCell 2 (some .int) :: ((wsX5_fitCell_r1 ++ wsX5_fitCell_r2) ++ wsX50 ++ wsX10)
def wsX5_number_r1 : List Cond := [Cond.fieldLink RX5 46 "SchubertDesk" "single" "LSchubertDesk$Single;", Cond.fieldLink RX5 112 "SchubertDesk$Single" "grid" "LSchubertDesk$Grid;", Cond.methodLink RX5 102 yX5_fitCell, Cond.instanceMethod yX5_fitCell, Cond.selects RX5 yX5_fitCell yX5_fitCell, Cond.initialized RX5, Cond.code yX5_fitCell cX5_fitCell 2 (some .int), Cond.fieldLink RX5 12 "SchubertDesk" "first" "LSchubertDesk$Digits;", Cond.methodLink RX5 57 yX1_read, Cond.instanceMethod yX1_read, Cond.selects RX1 yX1_read yX1_read, Cond.initialized RX1, Cond.code yX1_read cX1_read 7 (some .boolean), Cond.constant RX1 15 (987654321), Cond.fieldLink RX1 9 "SchubertDesk$Digits" "row" "[I", Cond.methodLink RX1 16 yX1_stayInPlace, Cond.instanceMethod yX1_stayInPlace, Cond.selects RX1 yX1_stayInPlace yX1_stayInPlace, Cond.code yX1_stayInPlace cX1_stayInPlace 2 none, Cond.methodLink RX5 221 yX1_isFit, Cond.instanceMethod yX1_isFit, Cond.selects RX1 yX1_isFit yX1_isFit, Cond.code yX1_isFit cX1_isFit 1 (some .boolean), Cond.methodLink RX1 54 yX1_lastDescent]
def wsX5_number_r2 : List Cond := [Cond.instanceMethod yX1_lastDescent, Cond.selects RX1 yX1_lastDescent yX1_lastDescent, Cond.code yX1_lastDescent cX1_lastDescent 3 (some .int), Cond.methodLink RX5 224 yX1_codeCell, Cond.instanceMethod yX1_codeCell, Cond.selects RX1 yX1_codeCell yX1_codeCell, Cond.code yX1_codeCell cX1_codeCell 1 (some .int), Cond.methodLink RX1 47 yX1_codeAt, Cond.instanceMethod yX1_codeAt, Cond.selects RX1 yX1_codeAt yX1_codeAt, Cond.code yX1_codeAt cX1_codeAt 4 (some .int), Cond.methodLink RX1 19 yX1_digit, Cond.instanceMethod yX1_digit, Cond.selects RX1 yX1_digit yX1_digit, Cond.code yX1_digit cX1_digit 2 (some .int), Cond.static yX5_cellOf, Cond.code yX5_cellOf cX5_cellOf 4 (some .int), Cond.methodLink RX5 105 yX5_isAnyNegative, Cond.static yX5_isAnyNegative, Cond.code yX5_isAnyNegative cX5_isAnyNegative 4 (some .boolean), Cond.methodLink RX5 109 yX4_make, Cond.instanceMethod yX4_make, Cond.selects RX4 yX4_make yX4_make, Cond.initialized RX4]
def wsX5_number_r3 : List Cond := [Cond.code yX4_make cX4_make 5 none, Cond.fieldLink RX4 25 "SchubertDesk$Single" "made" "I", Cond.fieldLink RX4 18 "SchubertDesk$Single" "code" "[I", Cond.fieldLink RX4 12 "SchubertDesk$Single" "grid" "LSchubertDesk$Grid;", Cond.fieldLink RX4 22 "SchubertDesk$Single" "way" "[I", Cond.static yX5_exponentAt, Cond.code yX5_exponentAt cX5_exponentAt 2 (some .int), Cond.methodLink RX4 33 yX4_climb, Cond.instanceMethod yX4_climb, Cond.selects RX4 yX4_climb yX4_climb, Cond.code yX4_climb cX4_climb 3 (some .int), Cond.methodLink RX4 49 yX4_firstRise, Cond.instanceMethod yX4_firstRise, Cond.selects RX4 yX4_firstRise yX4_firstRise, Cond.code yX4_firstRise cX4_firstRise 2 (some .int), Cond.methodLink RX4 52 yX4_exchangeAt, Cond.instanceMethod yX4_exchangeAt, Cond.selects RX4 yX4_exchangeAt yX4_exchangeAt, Cond.code yX4_exchangeAt cX4_exchangeAt 3 none, Cond.methodLink RX4 41 yX2_becomeMonomial, Cond.instanceMethod yX2_becomeMonomial, Cond.selects RX2 yX2_becomeMonomial yX2_becomeMonomial, Cond.initialized RX2, Cond.code yX2_becomeMonomial cX2_becomeMonomial 3 none]
def wsX5_number_r4 : List Cond := [Cond.fieldLink RX2 9 "SchubertDesk$Grid" "cell" "[J", Cond.fieldLink RX2 15 "SchubertDesk$Grid" "top" "[I", Cond.methodLink RX2 35 yX2_clear, Cond.instanceMethod yX2_clear, Cond.selects RX2 yX2_clear yX2_clear, Cond.code yX2_clear cX2_clear 1 none, Cond.methodLink RX2 19 yJ7_fill_d0a16, Cond.static yJ7_fill_d0a16, Cond.initialized RJ7, Cond.code yJ7_fill_d0a16 cJ7_fill_d0a16 5 none, Cond.methodLink RX4 45 yX2_differ, Cond.instanceMethod yX2_differ, Cond.selects RX2 yX2_differ yX2_differ, Cond.code yX2_differ cX2_differ 5 none, Cond.methodLink RX2 45 Lib.Math.max.name, Cond.static Lib.Math.max.name, Cond.initialized "java/lang/Math", Cond.code Lib.Math.max.name Lib.Math.max.code 2 (some .int), Cond.methodLink RX2 65 yX2_lowerDegree, Cond.instanceMethod yX2_lowerDegree, Cond.selects RX2 yX2_lowerDegree yX2_lowerDegree, Cond.code yX2_lowerDegree cX2_lowerDegree 7 none, Cond.methodLink RX2 72 yX2_lowerLine, Cond.instanceMethod yX2_lowerLine]
def wsX5_number_r5 : List Cond := [Cond.selects RX2 yX2_lowerLine yX2_lowerLine, Cond.code yX2_lowerLine cX2_lowerLine 10 none, Cond.methodLink RX2 76 Lib.Math.min.name, Cond.static Lib.Math.min.name, Cond.code Lib.Math.min.name Lib.Math.min.code 2 (some .int), Cond.methodLink RX2 79 yX2_pairCell, Cond.static yX2_pairCell, Cond.code yX2_pairCell cX2_pairCell 4 (some .int), Cond.methodLink RX2 61 yX2_at, Cond.instanceMethod yX2_at, Cond.selects RX2 yX2_at yX2_at, Cond.code yX2_at cX2_at 2 (some .long), Cond.methodLink RX2 82 yX2_put, Cond.instanceMethod yX2_put, Cond.selects RX2 yX2_put yX2_put, Cond.code yX2_put cX2_put 4 none, Cond.methodLink RX5 83 yX5_cellOf, Cond.methodLink RX5 115 yX2_at]
def wsX5_number : List Cond := .code yX5_number cX5_number 7 (some .int) :: ((wsX5_number_r1 ++ (wsX5_number_r2 ++ (wsX5_number_r3 ++ (wsX5_number_r4 ++ wsX5_number_r5)))) ++ wsX50 ++ wsX40 ++ wsX10 ++ wsX20)
def wsX5_terms_r1 : List Cond := [Cond.fieldLink RX5 46 "SchubertDesk" "single" "LSchubertDesk$Single;", Cond.fieldLink RX5 112 "SchubertDesk$Single" "grid" "LSchubertDesk$Grid;", Cond.methodLink RX5 102 yX5_fitCell, Cond.instanceMethod yX5_fitCell, Cond.selects RX5 yX5_fitCell yX5_fitCell, Cond.initialized RX5, Cond.code yX5_fitCell cX5_fitCell 2 (some .int), Cond.fieldLink RX5 12 "SchubertDesk" "first" "LSchubertDesk$Digits;", Cond.methodLink RX5 57 yX1_read, Cond.instanceMethod yX1_read, Cond.selects RX1 yX1_read yX1_read, Cond.initialized RX1, Cond.code yX1_read cX1_read 7 (some .boolean), Cond.constant RX1 15 (987654321), Cond.fieldLink RX1 9 "SchubertDesk$Digits" "row" "[I", Cond.methodLink RX1 16 yX1_stayInPlace, Cond.instanceMethod yX1_stayInPlace, Cond.selects RX1 yX1_stayInPlace yX1_stayInPlace, Cond.code yX1_stayInPlace cX1_stayInPlace 2 none, Cond.methodLink RX5 221 yX1_isFit, Cond.instanceMethod yX1_isFit, Cond.selects RX1 yX1_isFit yX1_isFit, Cond.code yX1_isFit cX1_isFit 1 (some .boolean), Cond.methodLink RX1 54 yX1_lastDescent]
def wsX5_terms_r2 : List Cond := [Cond.instanceMethod yX1_lastDescent, Cond.selects RX1 yX1_lastDescent yX1_lastDescent, Cond.code yX1_lastDescent cX1_lastDescent 3 (some .int), Cond.methodLink RX5 224 yX1_codeCell, Cond.instanceMethod yX1_codeCell, Cond.selects RX1 yX1_codeCell yX1_codeCell, Cond.code yX1_codeCell cX1_codeCell 1 (some .int), Cond.methodLink RX1 47 yX1_codeAt, Cond.instanceMethod yX1_codeAt, Cond.selects RX1 yX1_codeAt yX1_codeAt, Cond.code yX1_codeAt cX1_codeAt 4 (some .int), Cond.methodLink RX1 19 yX1_digit, Cond.instanceMethod yX1_digit, Cond.selects RX1 yX1_digit yX1_digit, Cond.code yX1_digit cX1_digit 2 (some .int), Cond.static yX5_cellOf, Cond.code yX5_cellOf cX5_cellOf 4 (some .int), Cond.methodLink RX5 105 yX5_isAnyNegative, Cond.static yX5_isAnyNegative, Cond.code yX5_isAnyNegative cX5_isAnyNegative 4 (some .boolean), Cond.methodLink RX5 109 yX4_make, Cond.instanceMethod yX4_make, Cond.selects RX4 yX4_make yX4_make, Cond.initialized RX4]
def wsX5_terms_r3 : List Cond := [Cond.code yX4_make cX4_make 5 none, Cond.fieldLink RX4 25 "SchubertDesk$Single" "made" "I", Cond.fieldLink RX4 18 "SchubertDesk$Single" "code" "[I", Cond.fieldLink RX4 12 "SchubertDesk$Single" "grid" "LSchubertDesk$Grid;", Cond.fieldLink RX4 22 "SchubertDesk$Single" "way" "[I", Cond.static yX5_exponentAt, Cond.code yX5_exponentAt cX5_exponentAt 2 (some .int), Cond.methodLink RX4 33 yX4_climb, Cond.instanceMethod yX4_climb, Cond.selects RX4 yX4_climb yX4_climb, Cond.code yX4_climb cX4_climb 3 (some .int), Cond.methodLink RX4 49 yX4_firstRise, Cond.instanceMethod yX4_firstRise, Cond.selects RX4 yX4_firstRise yX4_firstRise, Cond.code yX4_firstRise cX4_firstRise 2 (some .int), Cond.methodLink RX4 52 yX4_exchangeAt, Cond.instanceMethod yX4_exchangeAt, Cond.selects RX4 yX4_exchangeAt yX4_exchangeAt, Cond.code yX4_exchangeAt cX4_exchangeAt 3 none, Cond.methodLink RX4 41 yX2_becomeMonomial, Cond.instanceMethod yX2_becomeMonomial, Cond.selects RX2 yX2_becomeMonomial yX2_becomeMonomial, Cond.initialized RX2, Cond.code yX2_becomeMonomial cX2_becomeMonomial 3 none]
def wsX5_terms_r4 : List Cond := [Cond.fieldLink RX2 9 "SchubertDesk$Grid" "cell" "[J", Cond.fieldLink RX2 15 "SchubertDesk$Grid" "top" "[I", Cond.methodLink RX2 35 yX2_clear, Cond.instanceMethod yX2_clear, Cond.selects RX2 yX2_clear yX2_clear, Cond.code yX2_clear cX2_clear 1 none, Cond.methodLink RX2 19 yJ7_fill_d0a16, Cond.static yJ7_fill_d0a16, Cond.initialized RJ7, Cond.code yJ7_fill_d0a16 cJ7_fill_d0a16 5 none, Cond.methodLink RX4 45 yX2_differ, Cond.instanceMethod yX2_differ, Cond.selects RX2 yX2_differ yX2_differ, Cond.code yX2_differ cX2_differ 5 none, Cond.methodLink RX2 45 Lib.Math.max.name, Cond.static Lib.Math.max.name, Cond.initialized "java/lang/Math", Cond.code Lib.Math.max.name Lib.Math.max.code 2 (some .int), Cond.methodLink RX2 65 yX2_lowerDegree, Cond.instanceMethod yX2_lowerDegree, Cond.selects RX2 yX2_lowerDegree yX2_lowerDegree, Cond.code yX2_lowerDegree cX2_lowerDegree 7 none, Cond.methodLink RX2 72 yX2_lowerLine, Cond.instanceMethod yX2_lowerLine]
def wsX5_terms_r5 : List Cond := [Cond.selects RX2 yX2_lowerLine yX2_lowerLine, Cond.code yX2_lowerLine cX2_lowerLine 10 none, Cond.methodLink RX2 76 Lib.Math.min.name, Cond.static Lib.Math.min.name, Cond.code Lib.Math.min.name Lib.Math.min.code 2 (some .int), Cond.methodLink RX2 79 yX2_pairCell, Cond.static yX2_pairCell, Cond.code yX2_pairCell cX2_pairCell 4 (some .int), Cond.methodLink RX2 61 yX2_at, Cond.instanceMethod yX2_at, Cond.selects RX2 yX2_at yX2_at, Cond.code yX2_at cX2_at 2 (some .long), Cond.methodLink RX2 82 yX2_put, Cond.instanceMethod yX2_put, Cond.selects RX2 yX2_put yX2_put, Cond.code yX2_put cX2_put 4 none, Cond.methodLink RX5 119 yX2_filled, Cond.instanceMethod yX2_filled, Cond.selects RX2 yX2_filled yX2_filled, Cond.code yX2_filled cX2_filled 3 (some .int)]
def wsX5_terms : List Cond := .code yX5_terms cX5_terms 3 (some .int) :: ((wsX5_terms_r1 ++ (wsX5_terms_r2 ++ (wsX5_terms_r3 ++ (wsX5_terms_r4 ++ wsX5_terms_r5)))) ++ wsX50 ++ wsX40 ++ wsX10 ++ wsX20)
def wsX5_isPoint : List Cond := .code yX5_isPoint cX5_isPoint 1 (some .boolean) :: ([])
def wsX5_value_r1 : List Cond := [Cond.constantLong RX5 125 (-9223372036854775808), Cond.fieldLink RX5 46 "SchubertDesk" "single" "LSchubertDesk$Single;", Cond.fieldLink RX5 112 "SchubertDesk$Single" "grid" "LSchubertDesk$Grid;", Cond.methodLink RX5 102 yX5_fitCell, Cond.instanceMethod yX5_fitCell, Cond.selects RX5 yX5_fitCell yX5_fitCell, Cond.initialized RX5, Cond.code yX5_fitCell cX5_fitCell 2 (some .int), Cond.fieldLink RX5 12 "SchubertDesk" "first" "LSchubertDesk$Digits;", Cond.methodLink RX5 57 yX1_read, Cond.instanceMethod yX1_read, Cond.selects RX1 yX1_read yX1_read, Cond.initialized RX1, Cond.code yX1_read cX1_read 7 (some .boolean), Cond.constant RX1 15 (987654321), Cond.fieldLink RX1 9 "SchubertDesk$Digits" "row" "[I", Cond.methodLink RX1 16 yX1_stayInPlace, Cond.instanceMethod yX1_stayInPlace, Cond.selects RX1 yX1_stayInPlace yX1_stayInPlace, Cond.code yX1_stayInPlace cX1_stayInPlace 2 none, Cond.methodLink RX5 221 yX1_isFit, Cond.instanceMethod yX1_isFit, Cond.selects RX1 yX1_isFit yX1_isFit, Cond.code yX1_isFit cX1_isFit 1 (some .boolean)]
def wsX5_value_r2 : List Cond := [Cond.methodLink RX1 54 yX1_lastDescent, Cond.instanceMethod yX1_lastDescent, Cond.selects RX1 yX1_lastDescent yX1_lastDescent, Cond.code yX1_lastDescent cX1_lastDescent 3 (some .int), Cond.methodLink RX5 224 yX1_codeCell, Cond.instanceMethod yX1_codeCell, Cond.selects RX1 yX1_codeCell yX1_codeCell, Cond.code yX1_codeCell cX1_codeCell 1 (some .int), Cond.methodLink RX1 47 yX1_codeAt, Cond.instanceMethod yX1_codeAt, Cond.selects RX1 yX1_codeAt yX1_codeAt, Cond.code yX1_codeAt cX1_codeAt 4 (some .int), Cond.methodLink RX1 19 yX1_digit, Cond.instanceMethod yX1_digit, Cond.selects RX1 yX1_digit yX1_digit, Cond.code yX1_digit cX1_digit 2 (some .int), Cond.static yX5_cellOf, Cond.code yX5_cellOf cX5_cellOf 4 (some .int), Cond.methodLink RX5 105 yX5_isAnyNegative, Cond.static yX5_isAnyNegative, Cond.code yX5_isAnyNegative cX5_isAnyNegative 4 (some .boolean), Cond.methodLink RX5 122 yX5_isPoint, Cond.static yX5_isPoint, Cond.code yX5_isPoint cX5_isPoint 1 (some .boolean)]
def wsX5_value_r3 : List Cond := [Cond.methodLink RX5 109 yX4_make, Cond.instanceMethod yX4_make, Cond.selects RX4 yX4_make yX4_make, Cond.initialized RX4, Cond.code yX4_make cX4_make 5 none, Cond.fieldLink RX4 25 "SchubertDesk$Single" "made" "I", Cond.fieldLink RX4 18 "SchubertDesk$Single" "code" "[I", Cond.fieldLink RX4 12 "SchubertDesk$Single" "grid" "LSchubertDesk$Grid;", Cond.fieldLink RX4 22 "SchubertDesk$Single" "way" "[I", Cond.static yX5_exponentAt, Cond.code yX5_exponentAt cX5_exponentAt 2 (some .int), Cond.methodLink RX4 33 yX4_climb, Cond.instanceMethod yX4_climb, Cond.selects RX4 yX4_climb yX4_climb, Cond.code yX4_climb cX4_climb 3 (some .int), Cond.methodLink RX4 49 yX4_firstRise, Cond.instanceMethod yX4_firstRise, Cond.selects RX4 yX4_firstRise yX4_firstRise, Cond.code yX4_firstRise cX4_firstRise 2 (some .int), Cond.methodLink RX4 52 yX4_exchangeAt, Cond.instanceMethod yX4_exchangeAt, Cond.selects RX4 yX4_exchangeAt yX4_exchangeAt, Cond.code yX4_exchangeAt cX4_exchangeAt 3 none, Cond.methodLink RX4 41 yX2_becomeMonomial]
def wsX5_value_r4 : List Cond := [Cond.instanceMethod yX2_becomeMonomial, Cond.selects RX2 yX2_becomeMonomial yX2_becomeMonomial, Cond.initialized RX2, Cond.code yX2_becomeMonomial cX2_becomeMonomial 3 none, Cond.fieldLink RX2 9 "SchubertDesk$Grid" "cell" "[J", Cond.fieldLink RX2 15 "SchubertDesk$Grid" "top" "[I", Cond.methodLink RX2 35 yX2_clear, Cond.instanceMethod yX2_clear, Cond.selects RX2 yX2_clear yX2_clear, Cond.code yX2_clear cX2_clear 1 none, Cond.methodLink RX2 19 yJ7_fill_d0a16, Cond.static yJ7_fill_d0a16, Cond.initialized RJ7, Cond.code yJ7_fill_d0a16 cJ7_fill_d0a16 5 none, Cond.methodLink RX4 45 yX2_differ, Cond.instanceMethod yX2_differ, Cond.selects RX2 yX2_differ yX2_differ, Cond.code yX2_differ cX2_differ 5 none, Cond.methodLink RX2 45 Lib.Math.max.name, Cond.static Lib.Math.max.name, Cond.initialized "java/lang/Math", Cond.code Lib.Math.max.name Lib.Math.max.code 2 (some .int), Cond.methodLink RX2 65 yX2_lowerDegree, Cond.instanceMethod yX2_lowerDegree]
def wsX5_value_r5 : List Cond := [Cond.selects RX2 yX2_lowerDegree yX2_lowerDegree, Cond.code yX2_lowerDegree cX2_lowerDegree 7 none, Cond.methodLink RX2 72 yX2_lowerLine, Cond.instanceMethod yX2_lowerLine, Cond.selects RX2 yX2_lowerLine yX2_lowerLine, Cond.code yX2_lowerLine cX2_lowerLine 10 none, Cond.methodLink RX2 76 Lib.Math.min.name, Cond.static Lib.Math.min.name, Cond.code Lib.Math.min.name Lib.Math.min.code 2 (some .int), Cond.methodLink RX2 79 yX2_pairCell, Cond.static yX2_pairCell, Cond.code yX2_pairCell cX2_pairCell 4 (some .int), Cond.methodLink RX2 61 yX2_at, Cond.instanceMethod yX2_at, Cond.selects RX2 yX2_at yX2_at, Cond.code yX2_at cX2_at 2 (some .long), Cond.methodLink RX2 82 yX2_put, Cond.instanceMethod yX2_put, Cond.selects RX2 yX2_put yX2_put, Cond.code yX2_put cX2_put 4 none, Cond.methodLink RX5 127 yX2_valueAt, Cond.instanceMethod yX2_valueAt, Cond.selects RX2 yX2_valueAt yX2_valueAt, Cond.code yX2_valueAt cX2_valueAt 14 (some .long)]
def wsX5_value_r6 : List Cond := [Cond.methodLink RX2 57 yX2_valueOfLine, Cond.instanceMethod yX2_valueOfLine, Cond.selects RX2 yX2_valueOfLine yX2_valueOfLine, Cond.code yX2_valueOfLine cX2_valueOfLine 6 (some .long)]
def wsX5_value : List Cond := .code yX5_value cX5_value 7 (some .long) :: ((wsX5_value_r1 ++ (wsX5_value_r2 ++ (wsX5_value_r3 ++ (wsX5_value_r4 ++ (wsX5_value_r5 ++ wsX5_value_r6))))) ++ wsX50 ++ wsX40 ++ wsX10 ++ wsX20)
def wsX5_wipe : List Cond := .code yX5_wipe cX5_wipe 2 (some .int) :: ([.fieldLink RX5 36 "SchubertDesk" "page" "LSchubertDesk$Grid;", .fieldLink RX5 53 "SchubertDesk" "parts" "LSchubertDesk$Parts;", .methodLink RX5 119 yX2_filled, .instanceMethod yX2_filled, .selects RX2 yX2_filled yX2_filled, .initialized RX2, .code yX2_filled cX2_filled 3 (some .int), .fieldLink RX2 9 "SchubertDesk$Grid" "cell" "[J", .methodLink RX5 131 yX2_clear, .instanceMethod yX2_clear, .selects RX2 yX2_clear yX2_clear, .code yX2_clear cX2_clear 1 none, .methodLink RX2 19 yJ7_fill_d0a16, .static yJ7_fill_d0a16, .initialized RJ7, .code yJ7_fill_d0a16 cJ7_fill_d0a16 5 none, .methodLink RX5 134 yX3_forget, .instanceMethod yX3_forget, .selects RX3 yX3_forget yX3_forget, .initialized RX3, .code yX3_forget cX3_forget 1 none, .fieldLink RX3 27 "SchubertDesk$Parts" "known" "Z"] ++ wsX50 ++ wsX20 ++ wsX30)
def wsX5_takeDraft_r1 : List Cond := [Cond.fieldLink RX5 40 "SchubertDesk" "draft" "LSchubertDesk$Grid;", Cond.fieldLink RX5 36 "SchubertDesk" "page" "LSchubertDesk$Grid;", Cond.fieldLink RX5 53 "SchubertDesk" "parts" "LSchubertDesk$Parts;", Cond.methodLink RX5 227 yX2_isWithinLimit, Cond.instanceMethod yX2_isWithinLimit, Cond.selects RX2 yX2_isWithinLimit yX2_isWithinLimit, Cond.initialized RX2, Cond.code yX2_isWithinLimit cX2_isWithinLimit 2 (some .boolean), Cond.fieldLink RX2 9 "SchubertDesk$Grid" "cell" "[J", Cond.constantLong RX2 31 (1000000000), Cond.constantLong RX2 33 (-1000000000), Cond.methodLink RX5 137 yX2_copy, Cond.instanceMethod yX2_copy, Cond.selects RX2 yX2_copy yX2_copy, Cond.code yX2_copy cX2_copy 2 none, Cond.methodLink RX2 25 arraycopyName, Cond.native arraycopyName, Cond.static arraycopyName, Cond.initialized "java/lang/System", Cond.methodLink RX5 134 yX3_forget, Cond.instanceMethod yX3_forget, Cond.selects RX3 yX3_forget yX3_forget, Cond.initialized RX3, Cond.code yX3_forget cX3_forget 1 none]
def wsX5_takeDraft_r2 : List Cond := [Cond.fieldLink RX3 27 "SchubertDesk$Parts" "known" "Z", Cond.methodLink RX5 119 yX2_filled, Cond.instanceMethod yX2_filled, Cond.selects RX2 yX2_filled yX2_filled, Cond.code yX2_filled cX2_filled 3 (some .int)]
def wsX5_takeDraft : List Cond := .code yX5_takeDraft cX5_takeDraft 1 (some .int) :: ((wsX5_takeDraft_r1 ++ wsX5_takeDraft_r2) ++ wsX50 ++ wsX20 ++ wsX30)
def wsX5_add_r1 : List Cond := [Cond.fieldLink RX5 46 "SchubertDesk" "single" "LSchubertDesk$Single;", Cond.fieldLink RX5 40 "SchubertDesk" "draft" "LSchubertDesk$Grid;", Cond.fieldLink RX5 36 "SchubertDesk" "page" "LSchubertDesk$Grid;", Cond.fieldLink RX5 112 "SchubertDesk$Single" "grid" "LSchubertDesk$Grid;", Cond.methodLink RX5 102 yX5_fitCell, Cond.instanceMethod yX5_fitCell, Cond.selects RX5 yX5_fitCell yX5_fitCell, Cond.initialized RX5, Cond.code yX5_fitCell cX5_fitCell 2 (some .int), Cond.fieldLink RX5 12 "SchubertDesk" "first" "LSchubertDesk$Digits;", Cond.methodLink RX5 57 yX1_read, Cond.instanceMethod yX1_read, Cond.selects RX1 yX1_read yX1_read, Cond.initialized RX1, Cond.code yX1_read cX1_read 7 (some .boolean), Cond.constant RX1 15 (987654321), Cond.fieldLink RX1 9 "SchubertDesk$Digits" "row" "[I", Cond.methodLink RX1 16 yX1_stayInPlace, Cond.instanceMethod yX1_stayInPlace, Cond.selects RX1 yX1_stayInPlace yX1_stayInPlace, Cond.code yX1_stayInPlace cX1_stayInPlace 2 none, Cond.methodLink RX5 221 yX1_isFit, Cond.instanceMethod yX1_isFit, Cond.selects RX1 yX1_isFit yX1_isFit]
def wsX5_add_r2 : List Cond := [Cond.code yX1_isFit cX1_isFit 1 (some .boolean), Cond.methodLink RX1 54 yX1_lastDescent, Cond.instanceMethod yX1_lastDescent, Cond.selects RX1 yX1_lastDescent yX1_lastDescent, Cond.code yX1_lastDescent cX1_lastDescent 3 (some .int), Cond.methodLink RX5 224 yX1_codeCell, Cond.instanceMethod yX1_codeCell, Cond.selects RX1 yX1_codeCell yX1_codeCell, Cond.code yX1_codeCell cX1_codeCell 1 (some .int), Cond.methodLink RX1 47 yX1_codeAt, Cond.instanceMethod yX1_codeAt, Cond.selects RX1 yX1_codeAt yX1_codeAt, Cond.code yX1_codeAt cX1_codeAt 4 (some .int), Cond.methodLink RX1 19 yX1_digit, Cond.instanceMethod yX1_digit, Cond.selects RX1 yX1_digit yX1_digit, Cond.code yX1_digit cX1_digit 2 (some .int), Cond.static yX5_cellOf, Cond.code yX5_cellOf cX5_cellOf 4 (some .int), Cond.methodLink RX5 105 yX5_isAnyNegative, Cond.static yX5_isAnyNegative, Cond.code yX5_isAnyNegative cX5_isAnyNegative 4 (some .boolean), Cond.methodLink RX5 109 yX4_make, Cond.instanceMethod yX4_make]
def wsX5_add_r3 : List Cond := [Cond.selects RX4 yX4_make yX4_make, Cond.initialized RX4, Cond.code yX4_make cX4_make 5 none, Cond.fieldLink RX4 25 "SchubertDesk$Single" "made" "I", Cond.fieldLink RX4 18 "SchubertDesk$Single" "code" "[I", Cond.fieldLink RX4 12 "SchubertDesk$Single" "grid" "LSchubertDesk$Grid;", Cond.fieldLink RX4 22 "SchubertDesk$Single" "way" "[I", Cond.static yX5_exponentAt, Cond.code yX5_exponentAt cX5_exponentAt 2 (some .int), Cond.methodLink RX4 33 yX4_climb, Cond.instanceMethod yX4_climb, Cond.selects RX4 yX4_climb yX4_climb, Cond.code yX4_climb cX4_climb 3 (some .int), Cond.methodLink RX4 49 yX4_firstRise, Cond.instanceMethod yX4_firstRise, Cond.selects RX4 yX4_firstRise yX4_firstRise, Cond.code yX4_firstRise cX4_firstRise 2 (some .int), Cond.methodLink RX4 52 yX4_exchangeAt, Cond.instanceMethod yX4_exchangeAt, Cond.selects RX4 yX4_exchangeAt yX4_exchangeAt, Cond.code yX4_exchangeAt cX4_exchangeAt 3 none, Cond.methodLink RX4 41 yX2_becomeMonomial, Cond.instanceMethod yX2_becomeMonomial, Cond.selects RX2 yX2_becomeMonomial yX2_becomeMonomial]
def wsX5_add_r4 : List Cond := [Cond.initialized RX2, Cond.code yX2_becomeMonomial cX2_becomeMonomial 3 none, Cond.fieldLink RX2 9 "SchubertDesk$Grid" "cell" "[J", Cond.fieldLink RX2 15 "SchubertDesk$Grid" "top" "[I", Cond.methodLink RX2 35 yX2_clear, Cond.instanceMethod yX2_clear, Cond.selects RX2 yX2_clear yX2_clear, Cond.code yX2_clear cX2_clear 1 none, Cond.methodLink RX2 19 yJ7_fill_d0a16, Cond.static yJ7_fill_d0a16, Cond.initialized RJ7, Cond.code yJ7_fill_d0a16 cJ7_fill_d0a16 5 none, Cond.methodLink RX4 45 yX2_differ, Cond.instanceMethod yX2_differ, Cond.selects RX2 yX2_differ yX2_differ, Cond.code yX2_differ cX2_differ 5 none, Cond.methodLink RX2 45 Lib.Math.max.name, Cond.static Lib.Math.max.name, Cond.initialized "java/lang/Math", Cond.code Lib.Math.max.name Lib.Math.max.code 2 (some .int), Cond.methodLink RX2 65 yX2_lowerDegree, Cond.instanceMethod yX2_lowerDegree, Cond.selects RX2 yX2_lowerDegree yX2_lowerDegree, Cond.code yX2_lowerDegree cX2_lowerDegree 7 none]
def wsX5_add_r5 : List Cond := [Cond.methodLink RX2 72 yX2_lowerLine, Cond.instanceMethod yX2_lowerLine, Cond.selects RX2 yX2_lowerLine yX2_lowerLine, Cond.code yX2_lowerLine cX2_lowerLine 10 none, Cond.methodLink RX2 76 Lib.Math.min.name, Cond.static Lib.Math.min.name, Cond.code Lib.Math.min.name Lib.Math.min.code 2 (some .int), Cond.methodLink RX2 79 yX2_pairCell, Cond.static yX2_pairCell, Cond.code yX2_pairCell cX2_pairCell 4 (some .int), Cond.methodLink RX2 61 yX2_at, Cond.instanceMethod yX2_at, Cond.selects RX2 yX2_at yX2_at, Cond.code yX2_at cX2_at 2 (some .long), Cond.methodLink RX2 82 yX2_put, Cond.instanceMethod yX2_put, Cond.selects RX2 yX2_put yX2_put, Cond.code yX2_put cX2_put 4 none, Cond.methodLink RX5 137 yX2_copy, Cond.instanceMethod yX2_copy, Cond.selects RX2 yX2_copy yX2_copy, Cond.code yX2_copy cX2_copy 2 none, Cond.methodLink RX2 25 arraycopyName, Cond.native arraycopyName]
def wsX5_add_r6 : List Cond := [Cond.static arraycopyName, Cond.initialized "java/lang/System", Cond.methodLink RX5 141 yX2_addTimes, Cond.instanceMethod yX2_addTimes, Cond.selects RX2 yX2_addTimes yX2_addTimes, Cond.code yX2_addTimes cX2_addTimes 6 none, Cond.methodLink RX5 145 yX5_takeDraft, Cond.instanceMethod yX5_takeDraft, Cond.selects RX5 yX5_takeDraft yX5_takeDraft, Cond.code yX5_takeDraft cX5_takeDraft 1 (some .int), Cond.fieldLink RX5 53 "SchubertDesk" "parts" "LSchubertDesk$Parts;", Cond.methodLink RX5 227 yX2_isWithinLimit, Cond.instanceMethod yX2_isWithinLimit, Cond.selects RX2 yX2_isWithinLimit yX2_isWithinLimit, Cond.code yX2_isWithinLimit cX2_isWithinLimit 2 (some .boolean), Cond.constantLong RX2 31 (1000000000), Cond.constantLong RX2 33 (-1000000000), Cond.methodLink RX5 134 yX3_forget, Cond.instanceMethod yX3_forget, Cond.selects RX3 yX3_forget yX3_forget, Cond.initialized RX3, Cond.code yX3_forget cX3_forget 1 none, Cond.fieldLink RX3 27 "SchubertDesk$Parts" "known" "Z", Cond.methodLink RX5 119 yX2_filled]
def wsX5_add_r7 : List Cond := [Cond.instanceMethod yX2_filled, Cond.selects RX2 yX2_filled yX2_filled, Cond.code yX2_filled cX2_filled 3 (some .int)]
def wsX5_add : List Cond := .code yX5_add cX5_add 4 (some .int) :: ((wsX5_add_r1 ++ (wsX5_add_r2 ++ (wsX5_add_r3 ++ (wsX5_add_r4 ++ (wsX5_add_r5 ++ (wsX5_add_r6 ++ wsX5_add_r7)))))) ++ wsX50 ++ wsX40 ++ wsX10 ++ wsX20 ++ wsX30)
def wsX5_multiply_r1 : List Cond := [Cond.fieldLink RX5 46 "SchubertDesk" "single" "LSchubertDesk$Single;", Cond.fieldLink RX5 36 "SchubertDesk" "page" "LSchubertDesk$Grid;", Cond.fieldLink RX5 112 "SchubertDesk$Single" "grid" "LSchubertDesk$Grid;", Cond.fieldLink RX5 40 "SchubertDesk" "draft" "LSchubertDesk$Grid;", Cond.methodLink RX5 102 yX5_fitCell, Cond.instanceMethod yX5_fitCell, Cond.selects RX5 yX5_fitCell yX5_fitCell, Cond.initialized RX5, Cond.code yX5_fitCell cX5_fitCell 2 (some .int), Cond.fieldLink RX5 12 "SchubertDesk" "first" "LSchubertDesk$Digits;", Cond.methodLink RX5 57 yX1_read, Cond.instanceMethod yX1_read, Cond.selects RX1 yX1_read yX1_read, Cond.initialized RX1, Cond.code yX1_read cX1_read 7 (some .boolean), Cond.constant RX1 15 (987654321), Cond.fieldLink RX1 9 "SchubertDesk$Digits" "row" "[I", Cond.methodLink RX1 16 yX1_stayInPlace, Cond.instanceMethod yX1_stayInPlace, Cond.selects RX1 yX1_stayInPlace yX1_stayInPlace, Cond.code yX1_stayInPlace cX1_stayInPlace 2 none, Cond.methodLink RX5 221 yX1_isFit, Cond.instanceMethod yX1_isFit, Cond.selects RX1 yX1_isFit yX1_isFit]
def wsX5_multiply_r2 : List Cond := [Cond.code yX1_isFit cX1_isFit 1 (some .boolean), Cond.methodLink RX1 54 yX1_lastDescent, Cond.instanceMethod yX1_lastDescent, Cond.selects RX1 yX1_lastDescent yX1_lastDescent, Cond.code yX1_lastDescent cX1_lastDescent 3 (some .int), Cond.methodLink RX5 224 yX1_codeCell, Cond.instanceMethod yX1_codeCell, Cond.selects RX1 yX1_codeCell yX1_codeCell, Cond.code yX1_codeCell cX1_codeCell 1 (some .int), Cond.methodLink RX1 47 yX1_codeAt, Cond.instanceMethod yX1_codeAt, Cond.selects RX1 yX1_codeAt yX1_codeAt, Cond.code yX1_codeAt cX1_codeAt 4 (some .int), Cond.methodLink RX1 19 yX1_digit, Cond.instanceMethod yX1_digit, Cond.selects RX1 yX1_digit yX1_digit, Cond.code yX1_digit cX1_digit 2 (some .int), Cond.static yX5_cellOf, Cond.code yX5_cellOf cX5_cellOf 4 (some .int), Cond.methodLink RX5 105 yX5_isAnyNegative, Cond.static yX5_isAnyNegative, Cond.code yX5_isAnyNegative cX5_isAnyNegative 4 (some .boolean), Cond.methodLink RX5 109 yX4_make, Cond.instanceMethod yX4_make]
def wsX5_multiply_r3 : List Cond := [Cond.selects RX4 yX4_make yX4_make, Cond.initialized RX4, Cond.code yX4_make cX4_make 5 none, Cond.fieldLink RX4 25 "SchubertDesk$Single" "made" "I", Cond.fieldLink RX4 18 "SchubertDesk$Single" "code" "[I", Cond.fieldLink RX4 12 "SchubertDesk$Single" "grid" "LSchubertDesk$Grid;", Cond.fieldLink RX4 22 "SchubertDesk$Single" "way" "[I", Cond.static yX5_exponentAt, Cond.code yX5_exponentAt cX5_exponentAt 2 (some .int), Cond.methodLink RX4 33 yX4_climb, Cond.instanceMethod yX4_climb, Cond.selects RX4 yX4_climb yX4_climb, Cond.code yX4_climb cX4_climb 3 (some .int), Cond.methodLink RX4 49 yX4_firstRise, Cond.instanceMethod yX4_firstRise, Cond.selects RX4 yX4_firstRise yX4_firstRise, Cond.code yX4_firstRise cX4_firstRise 2 (some .int), Cond.methodLink RX4 52 yX4_exchangeAt, Cond.instanceMethod yX4_exchangeAt, Cond.selects RX4 yX4_exchangeAt yX4_exchangeAt, Cond.code yX4_exchangeAt cX4_exchangeAt 3 none, Cond.methodLink RX4 41 yX2_becomeMonomial, Cond.instanceMethod yX2_becomeMonomial, Cond.selects RX2 yX2_becomeMonomial yX2_becomeMonomial]
def wsX5_multiply_r4 : List Cond := [Cond.initialized RX2, Cond.code yX2_becomeMonomial cX2_becomeMonomial 3 none, Cond.fieldLink RX2 9 "SchubertDesk$Grid" "cell" "[J", Cond.fieldLink RX2 15 "SchubertDesk$Grid" "top" "[I", Cond.methodLink RX2 35 yX2_clear, Cond.instanceMethod yX2_clear, Cond.selects RX2 yX2_clear yX2_clear, Cond.code yX2_clear cX2_clear 1 none, Cond.methodLink RX2 19 yJ7_fill_d0a16, Cond.static yJ7_fill_d0a16, Cond.initialized RJ7, Cond.code yJ7_fill_d0a16 cJ7_fill_d0a16 5 none, Cond.methodLink RX4 45 yX2_differ, Cond.instanceMethod yX2_differ, Cond.selects RX2 yX2_differ yX2_differ, Cond.code yX2_differ cX2_differ 5 none, Cond.methodLink RX2 45 Lib.Math.max.name, Cond.static Lib.Math.max.name, Cond.initialized "java/lang/Math", Cond.code Lib.Math.max.name Lib.Math.max.code 2 (some .int), Cond.methodLink RX2 65 yX2_lowerDegree, Cond.instanceMethod yX2_lowerDegree, Cond.selects RX2 yX2_lowerDegree yX2_lowerDegree, Cond.code yX2_lowerDegree cX2_lowerDegree 7 none]
def wsX5_multiply_r5 : List Cond := [Cond.methodLink RX2 72 yX2_lowerLine, Cond.instanceMethod yX2_lowerLine, Cond.selects RX2 yX2_lowerLine yX2_lowerLine, Cond.code yX2_lowerLine cX2_lowerLine 10 none, Cond.methodLink RX2 76 Lib.Math.min.name, Cond.static Lib.Math.min.name, Cond.code Lib.Math.min.name Lib.Math.min.code 2 (some .int), Cond.methodLink RX2 79 yX2_pairCell, Cond.static yX2_pairCell, Cond.code yX2_pairCell cX2_pairCell 4 (some .int), Cond.methodLink RX2 61 yX2_at, Cond.instanceMethod yX2_at, Cond.selects RX2 yX2_at yX2_at, Cond.code yX2_at cX2_at 2 (some .long), Cond.methodLink RX2 82 yX2_put, Cond.instanceMethod yX2_put, Cond.selects RX2 yX2_put yX2_put, Cond.code yX2_put cX2_put 4 none, Cond.methodLink RX5 148 yX2_measure, Cond.instanceMethod yX2_measure, Cond.selects RX2 yX2_measure yX2_measure, Cond.code yX2_measure cX2_measure 3 none, Cond.methodLink RX2 42 yJ7_fill_53178, Cond.static yJ7_fill_53178]
def wsX5_multiply_r6 : List Cond := [Cond.code yJ7_fill_53178 cJ7_fill_53178 4 none, Cond.methodLink RX5 119 yX2_filled, Cond.instanceMethod yX2_filled, Cond.selects RX2 yX2_filled yX2_filled, Cond.code yX2_filled cX2_filled 3 (some .int), Cond.methodLink RX5 151 yX2_hasRoomFor, Cond.instanceMethod yX2_hasRoomFor, Cond.selects RX2 yX2_hasRoomFor yX2_hasRoomFor, Cond.code yX2_hasRoomFor cX2_hasRoomFor 3 (some .boolean), Cond.methodLink RX5 155 yX2_becomeProduct, Cond.instanceMethod yX2_becomeProduct, Cond.selects RX2 yX2_becomeProduct yX2_becomeProduct, Cond.code yX2_becomeProduct cX2_becomeProduct 7 none, Cond.methodLink RX5 145 yX5_takeDraft, Cond.instanceMethod yX5_takeDraft, Cond.selects RX5 yX5_takeDraft yX5_takeDraft, Cond.code yX5_takeDraft cX5_takeDraft 1 (some .int), Cond.fieldLink RX5 53 "SchubertDesk" "parts" "LSchubertDesk$Parts;", Cond.methodLink RX5 227 yX2_isWithinLimit, Cond.instanceMethod yX2_isWithinLimit, Cond.selects RX2 yX2_isWithinLimit yX2_isWithinLimit, Cond.code yX2_isWithinLimit cX2_isWithinLimit 2 (some .boolean), Cond.constantLong RX2 31 (1000000000), Cond.constantLong RX2 33 (-1000000000)]
def wsX5_multiply_r7 : List Cond := [Cond.methodLink RX5 137 yX2_copy, Cond.instanceMethod yX2_copy, Cond.selects RX2 yX2_copy yX2_copy, Cond.code yX2_copy cX2_copy 2 none, Cond.methodLink RX2 25 arraycopyName, Cond.native arraycopyName, Cond.static arraycopyName, Cond.initialized "java/lang/System", Cond.methodLink RX5 134 yX3_forget, Cond.instanceMethod yX3_forget, Cond.selects RX3 yX3_forget yX3_forget, Cond.initialized RX3, Cond.code yX3_forget cX3_forget 1 none, Cond.fieldLink RX3 27 "SchubertDesk$Parts" "known" "Z"]
def wsX5_multiply : List Cond := .code yX5_multiply cX5_multiply 3 (some .int) :: ((wsX5_multiply_r1 ++ (wsX5_multiply_r2 ++ (wsX5_multiply_r3 ++ (wsX5_multiply_r4 ++ (wsX5_multiply_r5 ++ (wsX5_multiply_r6 ++ wsX5_multiply_r7)))))) ++ wsX50 ++ wsX40 ++ wsX10 ++ wsX20 ++ wsX30)
def wsX5_difference_r1 : List Cond := [Cond.fieldLink RX5 40 "SchubertDesk" "draft" "LSchubertDesk$Grid;", Cond.fieldLink RX5 36 "SchubertDesk" "page" "LSchubertDesk$Grid;", Cond.methodLink RX5 137 yX2_copy, Cond.instanceMethod yX2_copy, Cond.selects RX2 yX2_copy yX2_copy, Cond.initialized RX2, Cond.code yX2_copy cX2_copy 2 none, Cond.fieldLink RX2 9 "SchubertDesk$Grid" "cell" "[J", Cond.methodLink RX2 25 arraycopyName, Cond.native arraycopyName, Cond.static arraycopyName, Cond.initialized "java/lang/System", Cond.methodLink RX5 148 yX2_measure, Cond.instanceMethod yX2_measure, Cond.selects RX2 yX2_measure yX2_measure, Cond.code yX2_measure cX2_measure 3 none, Cond.fieldLink RX2 15 "SchubertDesk$Grid" "top" "[I", Cond.methodLink RX2 45 Lib.Math.max.name, Cond.static Lib.Math.max.name, Cond.initialized "java/lang/Math", Cond.code Lib.Math.max.name Lib.Math.max.code 2 (some .int), Cond.methodLink RX2 42 yJ7_fill_53178, Cond.static yJ7_fill_53178, Cond.initialized RJ7]
def wsX5_difference_r2 : List Cond := [Cond.code yJ7_fill_53178 cJ7_fill_53178 4 none, Cond.static yX5_exponentAt, Cond.initialized RX5, Cond.code yX5_exponentAt cX5_exponentAt 2 (some .int), Cond.methodLink RX5 158 yX2_degreeBound, Cond.instanceMethod yX2_degreeBound, Cond.selects RX2 yX2_degreeBound yX2_degreeBound, Cond.code yX2_degreeBound cX2_degreeBound 1 (some .int), Cond.methodLink RX5 161 yX2_differ, Cond.instanceMethod yX2_differ, Cond.selects RX2 yX2_differ yX2_differ, Cond.code yX2_differ cX2_differ 5 none, Cond.methodLink RX2 65 yX2_lowerDegree, Cond.instanceMethod yX2_lowerDegree, Cond.selects RX2 yX2_lowerDegree yX2_lowerDegree, Cond.code yX2_lowerDegree cX2_lowerDegree 7 none, Cond.methodLink RX2 72 yX2_lowerLine, Cond.instanceMethod yX2_lowerLine, Cond.selects RX2 yX2_lowerLine yX2_lowerLine, Cond.code yX2_lowerLine cX2_lowerLine 10 none, Cond.methodLink RX2 76 Lib.Math.min.name, Cond.static Lib.Math.min.name, Cond.code Lib.Math.min.name Lib.Math.min.code 2 (some .int), Cond.methodLink RX2 79 yX2_pairCell]
def wsX5_difference_r3 : List Cond := [Cond.static yX2_pairCell, Cond.code yX2_pairCell cX2_pairCell 4 (some .int), Cond.methodLink RX2 61 yX2_at, Cond.instanceMethod yX2_at, Cond.selects RX2 yX2_at yX2_at, Cond.code yX2_at cX2_at 2 (some .long), Cond.methodLink RX2 82 yX2_put, Cond.instanceMethod yX2_put, Cond.selects RX2 yX2_put yX2_put, Cond.code yX2_put cX2_put 4 none, Cond.methodLink RX5 145 yX5_takeDraft, Cond.instanceMethod yX5_takeDraft, Cond.selects RX5 yX5_takeDraft yX5_takeDraft, Cond.code yX5_takeDraft cX5_takeDraft 1 (some .int), Cond.fieldLink RX5 53 "SchubertDesk" "parts" "LSchubertDesk$Parts;", Cond.methodLink RX5 227 yX2_isWithinLimit, Cond.instanceMethod yX2_isWithinLimit, Cond.selects RX2 yX2_isWithinLimit yX2_isWithinLimit, Cond.code yX2_isWithinLimit cX2_isWithinLimit 2 (some .boolean), Cond.constantLong RX2 31 (1000000000), Cond.constantLong RX2 33 (-1000000000), Cond.methodLink RX5 134 yX3_forget, Cond.instanceMethod yX3_forget, Cond.selects RX3 yX3_forget yX3_forget]
def wsX5_difference_r4 : List Cond := [Cond.initialized RX3, Cond.code yX3_forget cX3_forget 1 none, Cond.fieldLink RX3 27 "SchubertDesk$Parts" "known" "Z", Cond.methodLink RX5 119 yX2_filled, Cond.instanceMethod yX2_filled, Cond.selects RX2 yX2_filled yX2_filled, Cond.code yX2_filled cX2_filled 3 (some .int)]
def wsX5_difference : List Cond := .code yX5_difference cX5_difference 2 (some .int) :: ((wsX5_difference_r1 ++ (wsX5_difference_r2 ++ (wsX5_difference_r3 ++ wsX5_difference_r4))) ++ wsX50 ++ wsX20 ++ wsX30)
def wsX5_sheet : List Cond := .code yX5_sheet cX5_sheet 5 (some .long) :: ([.constantLong RX5 125 (-9223372036854775808), .fieldLink RX5 36 "SchubertDesk" "page" "LSchubertDesk$Grid;", .methodLink RX5 105 yX5_isAnyNegative, .static yX5_isAnyNegative, .initialized RX5, .code yX5_isAnyNegative cX5_isAnyNegative 4 (some .boolean), .methodLink RX5 83 yX5_cellOf, .static yX5_cellOf, .code yX5_cellOf cX5_cellOf 4 (some .int), .methodLink RX5 115 yX2_at, .instanceMethod yX2_at, .selects RX2 yX2_at yX2_at, .initialized RX2, .code yX2_at cX2_at 2 (some .long), .fieldLink RX2 9 "SchubertDesk$Grid" "cell" "[J"] ++ wsX50 ++ wsX20)
def wsX5_part_r1 : List Cond := [Cond.fieldLink RX5 53 "SchubertDesk" "parts" "LSchubertDesk$Parts;", Cond.fieldLink RX5 36 "SchubertDesk" "page" "LSchubertDesk$Grid;", Cond.fieldLink RX5 46 "SchubertDesk" "single" "LSchubertDesk$Single;", Cond.fieldLink RX5 12 "SchubertDesk" "first" "LSchubertDesk$Digits;", Cond.fieldLink RX5 169 "SchubertDesk$Parts" "numbers" "LSchubertDesk$Ascending;", Cond.methodLink RX5 165 yX3_find, Cond.instanceMethod yX3_find, Cond.selects RX3 yX3_find yX3_find, Cond.initialized RX3, Cond.code yX3_find cX3_find 7 none, Cond.fieldLink RX3 27 "SchubertDesk$Parts" "known" "Z", Cond.fieldLink RX3 12 "SchubertDesk$Parts" "counts" "LSchubertDesk$Grid;", Cond.fieldLink RX3 23 "SchubertDesk$Parts" "numbers" "LSchubertDesk$Ascending;", Cond.fieldLink RX3 47 "SchubertDesk$Single" "grid" "LSchubertDesk$Grid;", Cond.methodLink RX3 31 yX2_copy, Cond.instanceMethod yX2_copy, Cond.selects RX2 yX2_copy yX2_copy, Cond.initialized RX2, Cond.code yX2_copy cX2_copy 2 none, Cond.fieldLink RX2 9 "SchubertDesk$Grid" "cell" "[J", Cond.methodLink RX2 25 arraycopyName, Cond.native arraycopyName, Cond.static arraycopyName, Cond.initialized "java/lang/System"]
def wsX5_part_r2 : List Cond := [Cond.methodLink RX3 35 yX0_clear, Cond.instanceMethod yX0_clear, Cond.selects RX0 yX0_clear yX0_clear, Cond.initialized RX0, Cond.code yX0_clear cX0_clear 1 none, Cond.fieldLink RX0 9 "SchubertDesk$Ascending" "size" "I", Cond.methodLink RX3 38 yX2_at, Cond.instanceMethod yX2_at, Cond.selects RX2 yX2_at yX2_at, Cond.code yX2_at cX2_at 2 (some .long), Cond.methodLink RX3 42 yX4_make, Cond.instanceMethod yX4_make, Cond.selects RX4 yX4_make yX4_make, Cond.initialized RX4, Cond.code yX4_make cX4_make 5 none, Cond.fieldLink RX4 25 "SchubertDesk$Single" "made" "I", Cond.fieldLink RX4 18 "SchubertDesk$Single" "code" "[I", Cond.fieldLink RX4 12 "SchubertDesk$Single" "grid" "LSchubertDesk$Grid;", Cond.fieldLink RX4 22 "SchubertDesk$Single" "way" "[I", Cond.static yX5_exponentAt, Cond.initialized RX5, Cond.code yX5_exponentAt cX5_exponentAt 2 (some .int), Cond.methodLink RX4 33 yX4_climb, Cond.instanceMethod yX4_climb]
def wsX5_part_r3 : List Cond := [Cond.selects RX4 yX4_climb yX4_climb, Cond.code yX4_climb cX4_climb 3 (some .int), Cond.methodLink RX4 49 yX4_firstRise, Cond.instanceMethod yX4_firstRise, Cond.selects RX4 yX4_firstRise yX4_firstRise, Cond.code yX4_firstRise cX4_firstRise 2 (some .int), Cond.methodLink RX4 52 yX4_exchangeAt, Cond.instanceMethod yX4_exchangeAt, Cond.selects RX4 yX4_exchangeAt yX4_exchangeAt, Cond.code yX4_exchangeAt cX4_exchangeAt 3 none, Cond.static yX5_cellOf, Cond.code yX5_cellOf cX5_cellOf 4 (some .int), Cond.methodLink RX5 105 yX5_isAnyNegative, Cond.static yX5_isAnyNegative, Cond.code yX5_isAnyNegative cX5_isAnyNegative 4 (some .boolean), Cond.methodLink RX4 41 yX2_becomeMonomial, Cond.instanceMethod yX2_becomeMonomial, Cond.selects RX2 yX2_becomeMonomial yX2_becomeMonomial, Cond.code yX2_becomeMonomial cX2_becomeMonomial 3 none, Cond.fieldLink RX2 15 "SchubertDesk$Grid" "top" "[I", Cond.methodLink RX2 35 yX2_clear, Cond.instanceMethod yX2_clear, Cond.selects RX2 yX2_clear yX2_clear, Cond.code yX2_clear cX2_clear 1 none]
def wsX5_part_r4 : List Cond := [Cond.methodLink RX2 19 yJ7_fill_d0a16, Cond.static yJ7_fill_d0a16, Cond.initialized RJ7, Cond.code yJ7_fill_d0a16 cJ7_fill_d0a16 5 none, Cond.methodLink RX4 45 yX2_differ, Cond.instanceMethod yX2_differ, Cond.selects RX2 yX2_differ yX2_differ, Cond.code yX2_differ cX2_differ 5 none, Cond.methodLink RX2 45 Lib.Math.max.name, Cond.static Lib.Math.max.name, Cond.initialized "java/lang/Math", Cond.code Lib.Math.max.name Lib.Math.max.code 2 (some .int), Cond.methodLink RX2 65 yX2_lowerDegree, Cond.instanceMethod yX2_lowerDegree, Cond.selects RX2 yX2_lowerDegree yX2_lowerDegree, Cond.code yX2_lowerDegree cX2_lowerDegree 7 none, Cond.methodLink RX2 72 yX2_lowerLine, Cond.instanceMethod yX2_lowerLine, Cond.selects RX2 yX2_lowerLine yX2_lowerLine, Cond.code yX2_lowerLine cX2_lowerLine 10 none, Cond.methodLink RX2 76 Lib.Math.min.name, Cond.static Lib.Math.min.name, Cond.code Lib.Math.min.name Lib.Math.min.code 2 (some .int), Cond.methodLink RX2 79 yX2_pairCell]
def wsX5_part_r5 : List Cond := [Cond.static yX2_pairCell, Cond.code yX2_pairCell cX2_pairCell 4 (some .int), Cond.methodLink RX2 61 yX2_at, Cond.methodLink RX2 82 yX2_put, Cond.instanceMethod yX2_put, Cond.selects RX2 yX2_put yX2_put, Cond.code yX2_put cX2_put 4 none, Cond.methodLink RX3 50 yX2_addTimes, Cond.instanceMethod yX2_addTimes, Cond.selects RX2 yX2_addTimes yX2_addTimes, Cond.code yX2_addTimes cX2_addTimes 6 none, Cond.methodLink RX3 54 yX1_becomeOfCode, Cond.instanceMethod yX1_becomeOfCode, Cond.selects RX1 yX1_becomeOfCode yX1_becomeOfCode, Cond.initialized RX1, Cond.code yX1_becomeOfCode cX1_becomeOfCode 5 none, Cond.fieldLink RX1 9 "SchubertDesk$Digits" "row" "[I", Cond.methodLink RX1 31 yX1_unusedAbove, Cond.static yX1_unusedAbove, Cond.code yX1_unusedAbove cX1_unusedAbove 4 (some .int), Cond.methodLink RX3 59 yX1_plainNumber, Cond.instanceMethod yX1_plainNumber, Cond.selects RX1 yX1_plainNumber yX1_plainNumber, Cond.code yX1_plainNumber cX1_plainNumber 4 (some .int)]
def wsX5_part_r6 : List Cond := [Cond.methodLink RX1 43 yX1_plainCount, Cond.instanceMethod yX1_plainCount, Cond.selects RX1 yX1_plainCount yX1_plainCount, Cond.code yX1_plainCount cX1_plainCount 2 (some .int), Cond.methodLink RX3 63 yX0_put, Cond.instanceMethod yX0_put, Cond.selects RX0 yX0_put yX0_put, Cond.code yX0_put cX0_put 4 none, Cond.fieldLink RX0 21 "SchubertDesk$Ascending" "items" "[I", Cond.methodLink RX0 25 arraycopyName, Cond.methodLink RX5 172 yX0_answer, Cond.instanceMethod yX0_answer, Cond.selects RX0 yX0_answer yX0_answer, Cond.code yX0_answer cX0_answer 2 (some .int)]
def wsX5_part : List Cond := .code yX5_part cX5_part 2 (some .int) :: ((wsX5_part_r1 ++ (wsX5_part_r2 ++ (wsX5_part_r3 ++ (wsX5_part_r4 ++ (wsX5_part_r5 ++ wsX5_part_r6))))) ++ wsX50 ++ wsX30 ++ wsX40 ++ wsX20 ++ wsX00 ++ wsX10)
def wsX5_times_r1 : List Cond := [Cond.constantLong RX5 125 (-9223372036854775808), Cond.fieldLink RX5 53 "SchubertDesk" "parts" "LSchubertDesk$Parts;", Cond.fieldLink RX5 36 "SchubertDesk" "page" "LSchubertDesk$Grid;", Cond.fieldLink RX5 46 "SchubertDesk" "single" "LSchubertDesk$Single;", Cond.fieldLink RX5 12 "SchubertDesk" "first" "LSchubertDesk$Digits;", Cond.fieldLink RX5 175 "SchubertDesk$Parts" "counts" "LSchubertDesk$Grid;", Cond.methodLink RX5 102 yX5_fitCell, Cond.instanceMethod yX5_fitCell, Cond.selects RX5 yX5_fitCell yX5_fitCell, Cond.initialized RX5, Cond.code yX5_fitCell cX5_fitCell 2 (some .int), Cond.methodLink RX5 57 yX1_read, Cond.instanceMethod yX1_read, Cond.selects RX1 yX1_read yX1_read, Cond.initialized RX1, Cond.code yX1_read cX1_read 7 (some .boolean), Cond.constant RX1 15 (987654321), Cond.fieldLink RX1 9 "SchubertDesk$Digits" "row" "[I", Cond.methodLink RX1 16 yX1_stayInPlace, Cond.instanceMethod yX1_stayInPlace, Cond.selects RX1 yX1_stayInPlace yX1_stayInPlace, Cond.code yX1_stayInPlace cX1_stayInPlace 2 none, Cond.methodLink RX5 221 yX1_isFit, Cond.instanceMethod yX1_isFit]
def wsX5_times_r2 : List Cond := [Cond.selects RX1 yX1_isFit yX1_isFit, Cond.code yX1_isFit cX1_isFit 1 (some .boolean), Cond.methodLink RX1 54 yX1_lastDescent, Cond.instanceMethod yX1_lastDescent, Cond.selects RX1 yX1_lastDescent yX1_lastDescent, Cond.code yX1_lastDescent cX1_lastDescent 3 (some .int), Cond.methodLink RX5 224 yX1_codeCell, Cond.instanceMethod yX1_codeCell, Cond.selects RX1 yX1_codeCell yX1_codeCell, Cond.code yX1_codeCell cX1_codeCell 1 (some .int), Cond.methodLink RX1 47 yX1_codeAt, Cond.instanceMethod yX1_codeAt, Cond.selects RX1 yX1_codeAt yX1_codeAt, Cond.code yX1_codeAt cX1_codeAt 4 (some .int), Cond.methodLink RX1 19 yX1_digit, Cond.instanceMethod yX1_digit, Cond.selects RX1 yX1_digit yX1_digit, Cond.code yX1_digit cX1_digit 2 (some .int), Cond.static yX5_cellOf, Cond.code yX5_cellOf cX5_cellOf 4 (some .int), Cond.methodLink RX5 105 yX5_isAnyNegative, Cond.static yX5_isAnyNegative, Cond.code yX5_isAnyNegative cX5_isAnyNegative 4 (some .boolean), Cond.methodLink RX5 165 yX3_find]
def wsX5_times_r3 : List Cond := [Cond.instanceMethod yX3_find, Cond.selects RX3 yX3_find yX3_find, Cond.initialized RX3, Cond.code yX3_find cX3_find 7 none, Cond.fieldLink RX3 27 "SchubertDesk$Parts" "known" "Z", Cond.fieldLink RX3 12 "SchubertDesk$Parts" "counts" "LSchubertDesk$Grid;", Cond.fieldLink RX3 23 "SchubertDesk$Parts" "numbers" "LSchubertDesk$Ascending;", Cond.fieldLink RX3 47 "SchubertDesk$Single" "grid" "LSchubertDesk$Grid;", Cond.methodLink RX3 31 yX2_copy, Cond.instanceMethod yX2_copy, Cond.selects RX2 yX2_copy yX2_copy, Cond.initialized RX2, Cond.code yX2_copy cX2_copy 2 none, Cond.fieldLink RX2 9 "SchubertDesk$Grid" "cell" "[J", Cond.methodLink RX2 25 arraycopyName, Cond.native arraycopyName, Cond.static arraycopyName, Cond.initialized "java/lang/System", Cond.methodLink RX3 35 yX0_clear, Cond.instanceMethod yX0_clear, Cond.selects RX0 yX0_clear yX0_clear, Cond.initialized RX0, Cond.code yX0_clear cX0_clear 1 none, Cond.fieldLink RX0 9 "SchubertDesk$Ascending" "size" "I"]
def wsX5_times_r4 : List Cond := [Cond.methodLink RX3 38 yX2_at, Cond.instanceMethod yX2_at, Cond.selects RX2 yX2_at yX2_at, Cond.code yX2_at cX2_at 2 (some .long), Cond.methodLink RX3 42 yX4_make, Cond.instanceMethod yX4_make, Cond.selects RX4 yX4_make yX4_make, Cond.initialized RX4, Cond.code yX4_make cX4_make 5 none, Cond.fieldLink RX4 25 "SchubertDesk$Single" "made" "I", Cond.fieldLink RX4 18 "SchubertDesk$Single" "code" "[I", Cond.fieldLink RX4 12 "SchubertDesk$Single" "grid" "LSchubertDesk$Grid;", Cond.fieldLink RX4 22 "SchubertDesk$Single" "way" "[I", Cond.static yX5_exponentAt, Cond.code yX5_exponentAt cX5_exponentAt 2 (some .int), Cond.methodLink RX4 33 yX4_climb, Cond.instanceMethod yX4_climb, Cond.selects RX4 yX4_climb yX4_climb, Cond.code yX4_climb cX4_climb 3 (some .int), Cond.methodLink RX4 49 yX4_firstRise, Cond.instanceMethod yX4_firstRise, Cond.selects RX4 yX4_firstRise yX4_firstRise, Cond.code yX4_firstRise cX4_firstRise 2 (some .int), Cond.methodLink RX4 52 yX4_exchangeAt]
def wsX5_times_r5 : List Cond := [Cond.instanceMethod yX4_exchangeAt, Cond.selects RX4 yX4_exchangeAt yX4_exchangeAt, Cond.code yX4_exchangeAt cX4_exchangeAt 3 none, Cond.methodLink RX4 41 yX2_becomeMonomial, Cond.instanceMethod yX2_becomeMonomial, Cond.selects RX2 yX2_becomeMonomial yX2_becomeMonomial, Cond.code yX2_becomeMonomial cX2_becomeMonomial 3 none, Cond.fieldLink RX2 15 "SchubertDesk$Grid" "top" "[I", Cond.methodLink RX2 35 yX2_clear, Cond.instanceMethod yX2_clear, Cond.selects RX2 yX2_clear yX2_clear, Cond.code yX2_clear cX2_clear 1 none, Cond.methodLink RX2 19 yJ7_fill_d0a16, Cond.static yJ7_fill_d0a16, Cond.initialized RJ7, Cond.code yJ7_fill_d0a16 cJ7_fill_d0a16 5 none, Cond.methodLink RX4 45 yX2_differ, Cond.instanceMethod yX2_differ, Cond.selects RX2 yX2_differ yX2_differ, Cond.code yX2_differ cX2_differ 5 none, Cond.methodLink RX2 45 Lib.Math.max.name, Cond.static Lib.Math.max.name, Cond.initialized "java/lang/Math", Cond.code Lib.Math.max.name Lib.Math.max.code 2 (some .int)]
def wsX5_times_r6 : List Cond := [Cond.methodLink RX2 65 yX2_lowerDegree, Cond.instanceMethod yX2_lowerDegree, Cond.selects RX2 yX2_lowerDegree yX2_lowerDegree, Cond.code yX2_lowerDegree cX2_lowerDegree 7 none, Cond.methodLink RX2 72 yX2_lowerLine, Cond.instanceMethod yX2_lowerLine, Cond.selects RX2 yX2_lowerLine yX2_lowerLine, Cond.code yX2_lowerLine cX2_lowerLine 10 none, Cond.methodLink RX2 76 Lib.Math.min.name, Cond.static Lib.Math.min.name, Cond.code Lib.Math.min.name Lib.Math.min.code 2 (some .int), Cond.methodLink RX2 79 yX2_pairCell, Cond.static yX2_pairCell, Cond.code yX2_pairCell cX2_pairCell 4 (some .int), Cond.methodLink RX2 61 yX2_at, Cond.methodLink RX2 82 yX2_put, Cond.instanceMethod yX2_put, Cond.selects RX2 yX2_put yX2_put, Cond.code yX2_put cX2_put 4 none, Cond.methodLink RX3 50 yX2_addTimes, Cond.instanceMethod yX2_addTimes, Cond.selects RX2 yX2_addTimes yX2_addTimes, Cond.code yX2_addTimes cX2_addTimes 6 none, Cond.methodLink RX3 54 yX1_becomeOfCode]
def wsX5_times_r7 : List Cond := [Cond.instanceMethod yX1_becomeOfCode, Cond.selects RX1 yX1_becomeOfCode yX1_becomeOfCode, Cond.code yX1_becomeOfCode cX1_becomeOfCode 5 none, Cond.methodLink RX1 31 yX1_unusedAbove, Cond.static yX1_unusedAbove, Cond.code yX1_unusedAbove cX1_unusedAbove 4 (some .int), Cond.methodLink RX3 59 yX1_plainNumber, Cond.instanceMethod yX1_plainNumber, Cond.selects RX1 yX1_plainNumber yX1_plainNumber, Cond.code yX1_plainNumber cX1_plainNumber 4 (some .int), Cond.methodLink RX1 43 yX1_plainCount, Cond.instanceMethod yX1_plainCount, Cond.selects RX1 yX1_plainCount yX1_plainCount, Cond.code yX1_plainCount cX1_plainCount 2 (some .int), Cond.methodLink RX3 63 yX0_put, Cond.instanceMethod yX0_put, Cond.selects RX0 yX0_put yX0_put, Cond.code yX0_put cX0_put 4 none, Cond.fieldLink RX0 21 "SchubertDesk$Ascending" "items" "[I", Cond.methodLink RX0 25 arraycopyName, Cond.methodLink RX5 115 yX2_at]
def wsX5_times : List Cond := .code yX5_times cX5_times 3 (some .long) :: ((wsX5_times_r1 ++ (wsX5_times_r2 ++ (wsX5_times_r3 ++ (wsX5_times_r4 ++ (wsX5_times_r5 ++ (wsX5_times_r6 ++ wsX5_times_r7)))))) ++ wsX50 ++ wsX30 ++ wsX10 ++ wsX40 ++ wsX20 ++ wsX00)
def wsX5_isCrossSet : List Cond := .code yX5_isCrossSet cX5_isCrossSet 1 (some .boolean) :: ([])
def wsJ6_bitCount_0f7a4 : List Cond := .code yJ6_bitCount_0f7a4 cJ6_bitCount_0f7a4 1 (some .int) :: ([.constant RJ6 265 (1431655765), .constant RJ6 266 (858993459), .constant RJ6 267 (252645135)])
def wsX5_makes_r1 : List Cond := [Cond.fieldLink RX5 12 "SchubertDesk" "first" "LSchubertDesk$Digits;", Cond.methodLink RX5 178 yX5_isCrossSet, Cond.static yX5_isCrossSet, Cond.initialized RX5, Cond.code yX5_isCrossSet cX5_isCrossSet 1 (some .boolean), Cond.methodLink RX5 181 yX1_becomeMade, Cond.instanceMethod yX1_becomeMade, Cond.selects RX1 yX1_becomeMade yX1_becomeMade, Cond.initialized RX1, Cond.code yX1_becomeMade cX1_becomeMade 3 none, Cond.methodLink RX1 16 yX1_stayInPlace, Cond.instanceMethod yX1_stayInPlace, Cond.selects RX1 yX1_stayInPlace yX1_stayInPlace, Cond.code yX1_stayInPlace cX1_stayInPlace 2 none, Cond.fieldLink RX1 9 "SchubertDesk$Digits" "row" "[I", Cond.methodLink RX1 40 yX1_exchange, Cond.instanceMethod yX1_exchange, Cond.selects RX1 yX1_exchange yX1_exchange, Cond.code yX1_exchange cX1_exchange 4 none, Cond.methodLink RX1 19 yX1_digit, Cond.instanceMethod yX1_digit, Cond.selects RX1 yX1_digit yX1_digit, Cond.code yX1_digit cX1_digit 2 (some .int), Cond.methodLink RX1 23 yX1_put]
def wsX5_makes_r2 : List Cond := [Cond.instanceMethod yX1_put, Cond.selects RX1 yX1_put yX1_put, Cond.code yX1_put cX1_put 3 none, Cond.methodLink RX5 65 yX1_inversions, Cond.instanceMethod yX1_inversions, Cond.selects RX1 yX1_inversions yX1_inversions, Cond.code yX1_inversions cX1_inversions 3 (some .int), Cond.methodLink RX1 47 yX1_codeAt, Cond.instanceMethod yX1_codeAt, Cond.selects RX1 yX1_codeAt yX1_codeAt, Cond.code yX1_codeAt cX1_codeAt 4 (some .int), Cond.methodLink RX5 184 yJ6_bitCount_0f7a4, Cond.static yJ6_bitCount_0f7a4, Cond.initialized RJ6, Cond.code yJ6_bitCount_0f7a4 cJ6_bitCount_0f7a4 1 (some .int), Cond.constant RJ6 265 (1431655765), Cond.constant RJ6 266 (858993459), Cond.constant RJ6 267 (252645135), Cond.methodLink RX5 61 yX1_plainNumber, Cond.instanceMethod yX1_plainNumber, Cond.selects RX1 yX1_plainNumber yX1_plainNumber, Cond.code yX1_plainNumber cX1_plainNumber 4 (some .int), Cond.methodLink RX1 43 yX1_plainCount, Cond.instanceMethod yX1_plainCount]
def wsX5_makes_r3 : List Cond := [Cond.selects RX1 yX1_plainCount yX1_plainCount, Cond.code yX1_plainCount cX1_plainCount 2 (some .int)]
def wsX5_makes : List Cond := .code yX5_makes cX5_makes 2 (some .int) :: ((wsX5_makes_r1 ++ (wsX5_makes_r2 ++ wsX5_makes_r3)) ++ wsX50 ++ wsX10)
def wsX5_isMadeBy_r1 : List Cond := [Cond.fieldLink RX5 18 "SchubertDesk" "second" "LSchubertDesk$Digits;", Cond.methodLink RX5 181 yX1_becomeMade, Cond.instanceMethod yX1_becomeMade, Cond.selects RX1 yX1_becomeMade yX1_becomeMade, Cond.initialized RX1, Cond.code yX1_becomeMade cX1_becomeMade 3 none, Cond.methodLink RX1 16 yX1_stayInPlace, Cond.instanceMethod yX1_stayInPlace, Cond.selects RX1 yX1_stayInPlace yX1_stayInPlace, Cond.code yX1_stayInPlace cX1_stayInPlace 2 none, Cond.fieldLink RX1 9 "SchubertDesk$Digits" "row" "[I", Cond.methodLink RX1 40 yX1_exchange, Cond.instanceMethod yX1_exchange, Cond.selects RX1 yX1_exchange yX1_exchange, Cond.code yX1_exchange cX1_exchange 4 none, Cond.methodLink RX1 19 yX1_digit, Cond.instanceMethod yX1_digit, Cond.selects RX1 yX1_digit yX1_digit, Cond.code yX1_digit cX1_digit 2 (some .int), Cond.methodLink RX1 23 yX1_put, Cond.instanceMethod yX1_put, Cond.selects RX1 yX1_put yX1_put, Cond.code yX1_put cX1_put 3 none, Cond.methodLink RX5 230 yX1_isSame]
def wsX5_isMadeBy_r2 : List Cond := [Cond.instanceMethod yX1_isSame, Cond.selects RX1 yX1_isSame yX1_isSame, Cond.code yX1_isSame cX1_isSame 3 (some .boolean)]
def wsX5_isMadeBy : List Cond := .code yX5_isMadeBy cX5_isMadeBy 3 (some .boolean) :: ((wsX5_isMadeBy_r1 ++ wsX5_isMadeBy_r2) ++ wsX50 ++ wsX10)
def wsX5_dream_r1 : List Cond := [Cond.fieldLink RX5 12 "SchubertDesk" "first" "LSchubertDesk$Digits;", Cond.methodLink RX5 57 yX1_read, Cond.instanceMethod yX1_read, Cond.selects RX1 yX1_read yX1_read, Cond.initialized RX1, Cond.code yX1_read cX1_read 7 (some .boolean), Cond.constant RX1 15 (987654321), Cond.fieldLink RX1 9 "SchubertDesk$Digits" "row" "[I", Cond.methodLink RX1 16 yX1_stayInPlace, Cond.instanceMethod yX1_stayInPlace, Cond.selects RX1 yX1_stayInPlace yX1_stayInPlace, Cond.code yX1_stayInPlace cX1_stayInPlace 2 none, Cond.methodLink RX5 94 yX1_isSmall, Cond.instanceMethod yX1_isSmall, Cond.selects RX1 yX1_isSmall yX1_isSmall, Cond.code yX1_isSmall cX1_isSmall 1 (some .boolean), Cond.methodLink RX1 43 yX1_plainCount, Cond.instanceMethod yX1_plainCount, Cond.selects RX1 yX1_plainCount yX1_plainCount, Cond.code yX1_plainCount cX1_plainCount 2 (some .int), Cond.methodLink RX5 65 yX1_inversions, Cond.instanceMethod yX1_inversions, Cond.selects RX1 yX1_inversions yX1_inversions, Cond.code yX1_inversions cX1_inversions 3 (some .int)]
def wsX5_dream_r2 : List Cond := [Cond.methodLink RX1 47 yX1_codeAt, Cond.instanceMethod yX1_codeAt, Cond.selects RX1 yX1_codeAt yX1_codeAt, Cond.code yX1_codeAt cX1_codeAt 4 (some .int), Cond.methodLink RX1 19 yX1_digit, Cond.instanceMethod yX1_digit, Cond.selects RX1 yX1_digit yX1_digit, Cond.code yX1_digit cX1_digit 2 (some .int), Cond.methodLink RX5 184 yJ6_bitCount_0f7a4, Cond.static yJ6_bitCount_0f7a4, Cond.initialized RJ6, Cond.code yJ6_bitCount_0f7a4 cJ6_bitCount_0f7a4 1 (some .int), Cond.constant RJ6 265 (1431655765), Cond.constant RJ6 266 (858993459), Cond.constant RJ6 267 (252645135), Cond.methodLink RX5 189 yX5_isMadeBy, Cond.instanceMethod yX5_isMadeBy, Cond.selects RX5 yX5_isMadeBy yX5_isMadeBy, Cond.initialized RX5, Cond.code yX5_isMadeBy cX5_isMadeBy 3 (some .boolean), Cond.fieldLink RX5 18 "SchubertDesk" "second" "LSchubertDesk$Digits;", Cond.methodLink RX5 181 yX1_becomeMade, Cond.instanceMethod yX1_becomeMade, Cond.selects RX1 yX1_becomeMade yX1_becomeMade]
def wsX5_dream_r3 : List Cond := [Cond.code yX1_becomeMade cX1_becomeMade 3 none, Cond.methodLink RX1 40 yX1_exchange, Cond.instanceMethod yX1_exchange, Cond.selects RX1 yX1_exchange yX1_exchange, Cond.code yX1_exchange cX1_exchange 4 none, Cond.methodLink RX1 23 yX1_put, Cond.instanceMethod yX1_put, Cond.selects RX1 yX1_put yX1_put, Cond.code yX1_put cX1_put 3 none, Cond.methodLink RX5 230 yX1_isSame, Cond.instanceMethod yX1_isSame, Cond.selects RX1 yX1_isSame yX1_isSame, Cond.code yX1_isSame cX1_isSame 3 (some .boolean)]
def wsX5_dream : List Cond := .code yX5_dream cX5_dream 6 (some .int) :: ((wsX5_dream_r1 ++ (wsX5_dream_r2 ++ wsX5_dream_r3)) ++ wsX50 ++ wsX10)
def wsX5_bitOf : List Cond := .code yX5_bitOf cX5_bitOf 2 (some .int) :: ([.fieldLink RX5 237 "SchubertDesk" "FIRST_BIT" "[I"])
def wsX5_isCrossAt : List Cond := .code yX5_isCrossAt cX5_isCrossAt 3 (some .boolean) :: ([.methodLink RX5 233 yX5_bitOf, .static yX5_bitOf, .initialized RX5, .code yX5_bitOf cX5_bitOf 2 (some .int), .fieldLink RX5 237 "SchubertDesk" "FIRST_BIT" "[I"])
def wsX5_putLadder : List Cond := .code yX5_putLadder cX5_putLadder 7 none :: ([.fieldLink RX5 29 "SchubertDesk" "list" "LSchubertDesk$Ascending;", .methodLink RX5 241 yX5_isCrossAt, .static yX5_isCrossAt, .initialized RX5, .code yX5_isCrossAt cX5_isCrossAt 3 (some .boolean), .methodLink RX5 233 yX5_bitOf, .static yX5_bitOf, .code yX5_bitOf cX5_bitOf 2 (some .int), .fieldLink RX5 237 "SchubertDesk" "FIRST_BIT" "[I", .methodLink RX5 245 yX0_put, .instanceMethod yX0_put, .selects RX0 yX0_put yX0_put, .initialized RX0, .code yX0_put cX0_put 4 none, .fieldLink RX0 9 "SchubertDesk$Ascending" "size" "I", .fieldLink RX0 21 "SchubertDesk$Ascending" "items" "[I", .methodLink RX0 25 arraycopyName, .native arraycopyName, .static arraycopyName, .initialized "java/lang/System"] ++ wsX50 ++ wsX00)
def wsX5_ladder_r1 : List Cond := [Cond.fieldLink RX5 29 "SchubertDesk" "list" "LSchubertDesk$Ascending;", Cond.methodLink RX5 178 yX5_isCrossSet, Cond.static yX5_isCrossSet, Cond.initialized RX5, Cond.code yX5_isCrossSet cX5_isCrossSet 1 (some .boolean), Cond.methodLink RX5 193 yX0_clear, Cond.instanceMethod yX0_clear, Cond.selects RX0 yX0_clear yX0_clear, Cond.initialized RX0, Cond.code yX0_clear cX0_clear 1 none, Cond.fieldLink RX0 9 "SchubertDesk$Ascending" "size" "I", Cond.methodLink RX5 194 yX5_putLadder, Cond.instanceMethod yX5_putLadder, Cond.selects RX5 yX5_putLadder yX5_putLadder, Cond.code yX5_putLadder cX5_putLadder 7 none, Cond.methodLink RX5 241 yX5_isCrossAt, Cond.static yX5_isCrossAt, Cond.code yX5_isCrossAt cX5_isCrossAt 3 (some .boolean), Cond.methodLink RX5 233 yX5_bitOf, Cond.static yX5_bitOf, Cond.code yX5_bitOf cX5_bitOf 2 (some .int), Cond.fieldLink RX5 237 "SchubertDesk" "FIRST_BIT" "[I", Cond.methodLink RX5 245 yX0_put, Cond.instanceMethod yX0_put]
def wsX5_ladder_r2 : List Cond := [Cond.selects RX0 yX0_put yX0_put, Cond.code yX0_put cX0_put 4 none, Cond.fieldLink RX0 21 "SchubertDesk$Ascending" "items" "[I", Cond.methodLink RX0 25 arraycopyName, Cond.native arraycopyName, Cond.static arraycopyName, Cond.initialized "java/lang/System", Cond.methodLink RX5 172 yX0_answer, Cond.instanceMethod yX0_answer, Cond.selects RX0 yX0_answer yX0_answer, Cond.code yX0_answer cX0_answer 2 (some .int)]
def wsX5_ladder : List Cond := .code yX5_ladder cX5_ladder 5 (some .int) :: ((wsX5_ladder_r1 ++ wsX5_ladder_r2) ++ wsX50 ++ wsX00)
def wsX5_putExchanged_r1 : List Cond := [Cond.fieldLink RX5 29 "SchubertDesk" "list" "LSchubertDesk$Ascending;", Cond.methodLink RX5 208 yX1_exchange, Cond.instanceMethod yX1_exchange, Cond.selects RX1 yX1_exchange yX1_exchange, Cond.initialized RX1, Cond.code yX1_exchange cX1_exchange 4 none, Cond.methodLink RX1 19 yX1_digit, Cond.instanceMethod yX1_digit, Cond.selects RX1 yX1_digit yX1_digit, Cond.code yX1_digit cX1_digit 2 (some .int), Cond.fieldLink RX1 9 "SchubertDesk$Digits" "row" "[I", Cond.methodLink RX1 23 yX1_put, Cond.instanceMethod yX1_put, Cond.selects RX1 yX1_put yX1_put, Cond.code yX1_put cX1_put 3 none, Cond.methodLink RX5 65 yX1_inversions, Cond.instanceMethod yX1_inversions, Cond.selects RX1 yX1_inversions yX1_inversions, Cond.code yX1_inversions cX1_inversions 3 (some .int), Cond.methodLink RX1 47 yX1_codeAt, Cond.instanceMethod yX1_codeAt, Cond.selects RX1 yX1_codeAt yX1_codeAt, Cond.code yX1_codeAt cX1_codeAt 4 (some .int), Cond.methodLink RX5 61 yX1_plainNumber]
def wsX5_putExchanged_r2 : List Cond := [Cond.instanceMethod yX1_plainNumber, Cond.selects RX1 yX1_plainNumber yX1_plainNumber, Cond.code yX1_plainNumber cX1_plainNumber 4 (some .int), Cond.methodLink RX1 43 yX1_plainCount, Cond.instanceMethod yX1_plainCount, Cond.selects RX1 yX1_plainCount yX1_plainCount, Cond.code yX1_plainCount cX1_plainCount 2 (some .int), Cond.methodLink RX5 245 yX0_put, Cond.instanceMethod yX0_put, Cond.selects RX0 yX0_put yX0_put, Cond.initialized RX0, Cond.code yX0_put cX0_put 4 none, Cond.fieldLink RX0 9 "SchubertDesk$Ascending" "size" "I", Cond.fieldLink RX0 21 "SchubertDesk$Ascending" "items" "[I", Cond.methodLink RX0 25 arraycopyName, Cond.native arraycopyName, Cond.static arraycopyName, Cond.initialized "java/lang/System"]
def wsX5_putExchanged : List Cond := .code yX5_putExchanged cX5_putExchanged 5 none :: ((wsX5_putExchanged_r1 ++ wsX5_putExchanged_r2) ++ wsX50 ++ wsX10 ++ wsX00)
def wsX5_rise_r1 : List Cond := [Cond.constant RX5 197 (99999999), Cond.fieldLink RX5 12 "SchubertDesk" "first" "LSchubertDesk$Digits;", Cond.fieldLink RX5 29 "SchubertDesk" "list" "LSchubertDesk$Ascending;", Cond.methodLink RX5 57 yX1_read, Cond.instanceMethod yX1_read, Cond.selects RX1 yX1_read yX1_read, Cond.initialized RX1, Cond.code yX1_read cX1_read 7 (some .boolean), Cond.constant RX1 15 (987654321), Cond.fieldLink RX1 9 "SchubertDesk$Digits" "row" "[I", Cond.methodLink RX1 16 yX1_stayInPlace, Cond.instanceMethod yX1_stayInPlace, Cond.selects RX1 yX1_stayInPlace yX1_stayInPlace, Cond.code yX1_stayInPlace cX1_stayInPlace 2 none, Cond.methodLink RX5 65 yX1_inversions, Cond.instanceMethod yX1_inversions, Cond.selects RX1 yX1_inversions yX1_inversions, Cond.code yX1_inversions cX1_inversions 3 (some .int), Cond.methodLink RX1 47 yX1_codeAt, Cond.instanceMethod yX1_codeAt, Cond.selects RX1 yX1_codeAt yX1_codeAt, Cond.code yX1_codeAt cX1_codeAt 4 (some .int), Cond.methodLink RX1 19 yX1_digit, Cond.instanceMethod yX1_digit]
def wsX5_rise_r2 : List Cond := [Cond.selects RX1 yX1_digit yX1_digit, Cond.code yX1_digit cX1_digit 2 (some .int), Cond.methodLink RX5 193 yX0_clear, Cond.instanceMethod yX0_clear, Cond.selects RX0 yX0_clear yX0_clear, Cond.initialized RX0, Cond.code yX0_clear cX0_clear 1 none, Cond.fieldLink RX0 9 "SchubertDesk$Ascending" "size" "I", Cond.methodLink RX5 198 yX5_putExchanged, Cond.instanceMethod yX5_putExchanged, Cond.selects RX5 yX5_putExchanged yX5_putExchanged, Cond.initialized RX5, Cond.code yX5_putExchanged cX5_putExchanged 5 none, Cond.methodLink RX5 208 yX1_exchange, Cond.instanceMethod yX1_exchange, Cond.selects RX1 yX1_exchange yX1_exchange, Cond.code yX1_exchange cX1_exchange 4 none, Cond.methodLink RX1 23 yX1_put, Cond.instanceMethod yX1_put, Cond.selects RX1 yX1_put yX1_put, Cond.code yX1_put cX1_put 3 none, Cond.methodLink RX5 61 yX1_plainNumber, Cond.instanceMethod yX1_plainNumber, Cond.selects RX1 yX1_plainNumber yX1_plainNumber]
def wsX5_rise_r3 : List Cond := [Cond.code yX1_plainNumber cX1_plainNumber 4 (some .int), Cond.methodLink RX1 43 yX1_plainCount, Cond.instanceMethod yX1_plainCount, Cond.selects RX1 yX1_plainCount yX1_plainCount, Cond.code yX1_plainCount cX1_plainCount 2 (some .int), Cond.methodLink RX5 245 yX0_put, Cond.instanceMethod yX0_put, Cond.selects RX0 yX0_put yX0_put, Cond.code yX0_put cX0_put 4 none, Cond.fieldLink RX0 21 "SchubertDesk$Ascending" "items" "[I", Cond.methodLink RX0 25 arraycopyName, Cond.native arraycopyName, Cond.static arraycopyName, Cond.initialized "java/lang/System", Cond.methodLink RX5 172 yX0_answer, Cond.instanceMethod yX0_answer, Cond.selects RX0 yX0_answer yX0_answer, Cond.code yX0_answer cX0_answer 2 (some .int)]
def wsX5_rise : List Cond := .code yX5_rise cX5_rise 7 (some .int) :: ((wsX5_rise_r1 ++ (wsX5_rise_r2 ++ wsX5_rise_r3)) ++ wsX50 ++ wsX10 ++ wsX00)
def wsX5_step_r1 : List Cond := [Cond.fieldLink RX5 12 "SchubertDesk" "first" "LSchubertDesk$Digits;", Cond.fieldLink RX5 29 "SchubertDesk" "list" "LSchubertDesk$Ascending;", Cond.methodLink RX5 57 yX1_read, Cond.instanceMethod yX1_read, Cond.selects RX1 yX1_read yX1_read, Cond.initialized RX1, Cond.code yX1_read cX1_read 7 (some .boolean), Cond.constant RX1 15 (987654321), Cond.fieldLink RX1 9 "SchubertDesk$Digits" "row" "[I", Cond.methodLink RX1 16 yX1_stayInPlace, Cond.instanceMethod yX1_stayInPlace, Cond.selects RX1 yX1_stayInPlace yX1_stayInPlace, Cond.code yX1_stayInPlace cX1_stayInPlace 2 none, Cond.methodLink RX5 202 yX1_lastDescent, Cond.instanceMethod yX1_lastDescent, Cond.selects RX1 yX1_lastDescent yX1_lastDescent, Cond.code yX1_lastDescent cX1_lastDescent 3 (some .int), Cond.methodLink RX5 205 yX1_lastLessThan, Cond.instanceMethod yX1_lastLessThan, Cond.selects RX1 yX1_lastLessThan yX1_lastLessThan, Cond.code yX1_lastLessThan cX1_lastLessThan 4 (some .int), Cond.methodLink RX1 19 yX1_digit, Cond.instanceMethod yX1_digit, Cond.selects RX1 yX1_digit yX1_digit]
def wsX5_step_r2 : List Cond := [Cond.code yX1_digit cX1_digit 2 (some .int), Cond.methodLink RX5 65 yX1_inversions, Cond.instanceMethod yX1_inversions, Cond.selects RX1 yX1_inversions yX1_inversions, Cond.code yX1_inversions cX1_inversions 3 (some .int), Cond.methodLink RX1 47 yX1_codeAt, Cond.instanceMethod yX1_codeAt, Cond.selects RX1 yX1_codeAt yX1_codeAt, Cond.code yX1_codeAt cX1_codeAt 4 (some .int), Cond.methodLink RX5 208 yX1_exchange, Cond.instanceMethod yX1_exchange, Cond.selects RX1 yX1_exchange yX1_exchange, Cond.code yX1_exchange cX1_exchange 4 none, Cond.methodLink RX1 23 yX1_put, Cond.instanceMethod yX1_put, Cond.selects RX1 yX1_put yX1_put, Cond.code yX1_put cX1_put 3 none, Cond.methodLink RX5 61 yX1_plainNumber, Cond.instanceMethod yX1_plainNumber, Cond.selects RX1 yX1_plainNumber yX1_plainNumber, Cond.code yX1_plainNumber cX1_plainNumber 4 (some .int), Cond.methodLink RX1 43 yX1_plainCount, Cond.instanceMethod yX1_plainCount, Cond.selects RX1 yX1_plainCount yX1_plainCount]
def wsX5_step_r3 : List Cond := [Cond.code yX1_plainCount cX1_plainCount 2 (some .int), Cond.methodLink RX5 193 yX0_clear, Cond.instanceMethod yX0_clear, Cond.selects RX0 yX0_clear yX0_clear, Cond.initialized RX0, Cond.code yX0_clear cX0_clear 1 none, Cond.fieldLink RX0 9 "SchubertDesk$Ascending" "size" "I", Cond.methodLink RX5 198 yX5_putExchanged, Cond.instanceMethod yX5_putExchanged, Cond.selects RX5 yX5_putExchanged yX5_putExchanged, Cond.initialized RX5, Cond.code yX5_putExchanged cX5_putExchanged 5 none, Cond.methodLink RX5 245 yX0_put, Cond.instanceMethod yX0_put, Cond.selects RX0 yX0_put yX0_put, Cond.code yX0_put cX0_put 4 none, Cond.fieldLink RX0 21 "SchubertDesk$Ascending" "items" "[I", Cond.methodLink RX0 25 arraycopyName, Cond.native arraycopyName, Cond.static arraycopyName, Cond.initialized "java/lang/System", Cond.methodLink RX5 172 yX0_answer, Cond.instanceMethod yX0_answer, Cond.selects RX0 yX0_answer yX0_answer]
def wsX5_step_r4 : List Cond := [Cond.code yX0_answer cX0_answer 2 (some .int)]
def wsX5_step : List Cond := .code yX5_step cX5_step 7 (some .int) :: ((wsX5_step_r1 ++ (wsX5_step_r2 ++ (wsX5_step_r3 ++ wsX5_step_r4))) ++ wsX50 ++ wsX10 ++ wsX00)
def wsX5_shape_r1 : List Cond := [Cond.fieldLink RX5 12 "SchubertDesk" "first" "LSchubertDesk$Digits;", Cond.methodLink RX5 57 yX1_read, Cond.instanceMethod yX1_read, Cond.selects RX1 yX1_read yX1_read, Cond.initialized RX1, Cond.code yX1_read cX1_read 7 (some .boolean), Cond.constant RX1 15 (987654321), Cond.fieldLink RX1 9 "SchubertDesk$Digits" "row" "[I", Cond.methodLink RX1 16 yX1_stayInPlace, Cond.instanceMethod yX1_stayInPlace, Cond.selects RX1 yX1_stayInPlace yX1_stayInPlace, Cond.code yX1_stayInPlace cX1_stayInPlace 2 none, Cond.methodLink RX5 72 yX1_descentSet, Cond.instanceMethod yX1_descentSet, Cond.selects RX1 yX1_descentSet yX1_descentSet, Cond.code yX1_descentSet cX1_descentSet 3 (some .int), Cond.methodLink RX5 184 yJ6_bitCount_0f7a4, Cond.static yJ6_bitCount_0f7a4, Cond.initialized RJ6, Cond.code yJ6_bitCount_0f7a4 cJ6_bitCount_0f7a4 1 (some .int), Cond.constant RJ6 265 (1431655765), Cond.constant RJ6 266 (858993459), Cond.constant RJ6 267 (252645135), Cond.methodLink RX5 202 yX1_lastDescent]
def wsX5_shape_r2 : List Cond := [Cond.instanceMethod yX1_lastDescent, Cond.selects RX1 yX1_lastDescent yX1_lastDescent, Cond.code yX1_lastDescent cX1_lastDescent 3 (some .int), Cond.methodLink RX5 212 yX1_digit, Cond.instanceMethod yX1_digit, Cond.selects RX1 yX1_digit yX1_digit, Cond.code yX1_digit cX1_digit 2 (some .int)]
def wsX5_shape : List Cond := .code yX5_shape cX5_shape 5 (some .int) :: ((wsX5_shape_r1 ++ wsX5_shape_r2) ++ wsX50 ++ wsX10)
def wsX5_avoids_r1 : List Cond := [Cond.fieldLink RX5 12 "SchubertDesk" "first" "LSchubertDesk$Digits;", Cond.methodLink RX5 57 yX1_read, Cond.instanceMethod yX1_read, Cond.selects RX1 yX1_read yX1_read, Cond.initialized RX1, Cond.code yX1_read cX1_read 7 (some .boolean), Cond.constant RX1 15 (987654321), Cond.fieldLink RX1 9 "SchubertDesk$Digits" "row" "[I", Cond.methodLink RX1 16 yX1_stayInPlace, Cond.instanceMethod yX1_stayInPlace, Cond.selects RX1 yX1_stayInPlace yX1_stayInPlace, Cond.code yX1_stayInPlace cX1_stayInPlace 2 none, Cond.methodLink RX5 215 yX1_hasLeastGreatestMiddle, Cond.instanceMethod yX1_hasLeastGreatestMiddle, Cond.selects RX1 yX1_hasLeastGreatestMiddle yX1_hasLeastGreatestMiddle, Cond.code yX1_hasLeastGreatestMiddle cX1_hasLeastGreatestMiddle 3 (some .boolean), Cond.methodLink RX1 57 yX1_leastAhead, Cond.instanceMethod yX1_leastAhead, Cond.selects RX1 yX1_leastAhead yX1_leastAhead, Cond.code yX1_leastAhead cX1_leastAhead 4 (some .int), Cond.methodLink RX1 60 Lib.Math.min.name, Cond.static Lib.Math.min.name, Cond.initialized "java/lang/Math", Cond.code Lib.Math.min.name Lib.Math.min.code 2 (some .int)]
def wsX5_avoids_r2 : List Cond := [Cond.methodLink RX1 19 yX1_digit, Cond.instanceMethod yX1_digit, Cond.selects RX1 yX1_digit yX1_digit, Cond.code yX1_digit cX1_digit 2 (some .int), Cond.methodLink RX5 218 yX1_hasTwoOneFourThree, Cond.instanceMethod yX1_hasTwoOneFourThree, Cond.selects RX1 yX1_hasTwoOneFourThree yX1_hasTwoOneFourThree, Cond.code yX1_hasTwoOneFourThree cX1_hasTwoOneFourThree 3 (some .boolean), Cond.methodLink RX1 65 yX1_hasFallAhead, Cond.instanceMethod yX1_hasFallAhead, Cond.selects RX1 yX1_hasFallAhead yX1_hasFallAhead, Cond.code yX1_hasFallAhead cX1_hasFallAhead 6 (some .boolean), Cond.methodLink RX1 69 Lib.Math.max.name, Cond.static Lib.Math.max.name, Cond.code Lib.Math.max.name Lib.Math.max.code 2 (some .int)]
def wsX5_avoids : List Cond := .code yX5_avoids cX5_avoids 4 (some .int) :: ((wsX5_avoids_r1 ++ wsX5_avoids_r2) ++ wsX50 ++ wsX10)
def wsX6_init : List Cond := .code yX6_init cX6_init 1 none :: ([.methodLink RX6 1 objectInit, .instanceMethod objectInit, .code objectInit ⟨#[0xb1]⟩ 1 none, .arrayClass .int, .fieldLink RX6 7 "SchubertDeskModel" "one" "[I", .fieldLink RX6 13 "SchubertDeskModel" "other" "[I", .fieldLink RX6 16 "SchubertDeskModel" "third" "[I", .fieldLink RX6 19 "SchubertDeskModel" "waysTo" "[I", .arrayClass .long, .fieldLink RX6 22 "SchubertDeskModel" "poly" "[J", .fieldLink RX6 26 "SchubertDeskModel" "then" "[J", .fieldLink RX6 29 "SchubertDeskModel" "steps" "[I", .fieldLink RX6 32 "SchubertDeskModel" "sheet" "[J", .fieldLink RX6 35 "SchubertDeskModel" "next" "[J", .constant RX6 38 (36465), .fieldLink RX6 39 "SchubertDeskModel" "wide" "[J", .fieldLink RX6 42 "SchubertDeskModel" "partOf" "[I", .fieldLink RX6 45 "SchubertDeskModel" "partTimes" "[J", .fieldLink RX6 48 "SchubertDeskModel" "foundAt" "[I"] ++ wsX60)
def wsX6_within : List Cond := .code yX6_within cX6_within 3 (some .boolean) :: ([])
def wsX6_lays : List Cond := .code yX6_lays cX6_lays 7 (some .boolean) :: ([.methodLink RX6 51 yX6_within, .static yX6_within, .initialized RX6, .code yX6_within cX6_within 3 (some .boolean)])
def wsX6_plainOf : List Cond := .code yX6_plainOf cX6_plainOf 4 (some .int) :: ([])
def wsX6_codeAt : List Cond := .code yX6_codeAt cX6_codeAt 4 (some .int) :: ([])
def wsX6_lengthOf : List Cond := .code yX6_lengthOf cX6_lengthOf 3 (some .int) :: ([.methodLink RX6 55 yX6_codeAt, .static yX6_codeAt, .initialized RX6, .code yX6_codeAt cX6_codeAt 4 (some .int)])
def wsX6_exchange : List Cond := .code yX6_exchange cX6_exchange 4 none :: ([])
def wsX6_descentsOf : List Cond := .code yX6_descentsOf cX6_descentsOf 3 (some .int) :: ([])
def wsX6_isFit : List Cond := .code yX6_isFit cX6_isFit 1 (some .boolean) :: ([.methodLink RX6 59 yX6_descentsOf, .static yX6_descentsOf, .initialized RX6, .code yX6_descentsOf cX6_descentsOf 3 (some .int)])
def wsX6_isSmall : List Cond := .code yX6_isSmall cX6_isSmall 3 (some .boolean) :: ([])
def wsX6_plain : List Cond := .code yX6_plain cX6_plain 2 (some .int) :: ([.fieldLink RX6 7 "SchubertDeskModel" "one" "[I", .methodLink RX6 63 yX6_lays, .static yX6_lays, .initialized RX6, .code yX6_lays cX6_lays 7 (some .boolean), .methodLink RX6 51 yX6_within, .static yX6_within, .code yX6_within cX6_within 3 (some .boolean), .methodLink RX6 67 yX6_plainOf, .static yX6_plainOf, .code yX6_plainOf cX6_plainOf 4 (some .int)] ++ wsX60)
def wsX6_length : List Cond := .code yX6_length cX6_length 2 (some .int) :: ([.fieldLink RX6 7 "SchubertDeskModel" "one" "[I", .methodLink RX6 63 yX6_lays, .static yX6_lays, .initialized RX6, .code yX6_lays cX6_lays 7 (some .boolean), .methodLink RX6 51 yX6_within, .static yX6_within, .code yX6_within cX6_within 3 (some .boolean), .methodLink RX6 70 yX6_lengthOf, .static yX6_lengthOf, .code yX6_lengthOf cX6_lengthOf 3 (some .int), .methodLink RX6 55 yX6_codeAt, .static yX6_codeAt, .code yX6_codeAt cX6_codeAt 4 (some .int)] ++ wsX60)
def wsX6_code : List Cond := .code yX6_code cX6_code 3 (some .int) :: ([.fieldLink RX6 7 "SchubertDeskModel" "one" "[I", .methodLink RX6 63 yX6_lays, .static yX6_lays, .initialized RX6, .code yX6_lays cX6_lays 7 (some .boolean), .methodLink RX6 51 yX6_within, .static yX6_within, .code yX6_within cX6_within 3 (some .boolean), .methodLink RX6 55 yX6_codeAt, .static yX6_codeAt, .code yX6_codeAt cX6_codeAt 4 (some .int)] ++ wsX60)
def wsX6_descents : List Cond := .code yX6_descents cX6_descents 2 (some .int) :: ([.fieldLink RX6 7 "SchubertDeskModel" "one" "[I", .methodLink RX6 63 yX6_lays, .static yX6_lays, .initialized RX6, .code yX6_lays cX6_lays 7 (some .boolean), .methodLink RX6 51 yX6_within, .static yX6_within, .code yX6_within cX6_within 3 (some .boolean), .methodLink RX6 59 yX6_descentsOf, .static yX6_descentsOf, .code yX6_descentsOf cX6_descentsOf 3 (some .int)] ++ wsX60)
def wsX6_inverse : List Cond := .code yX6_inverse cX6_inverse 3 (some .int) :: ([.fieldLink RX6 7 "SchubertDeskModel" "one" "[I", .fieldLink RX6 13 "SchubertDeskModel" "other" "[I", .methodLink RX6 63 yX6_lays, .static yX6_lays, .initialized RX6, .code yX6_lays cX6_lays 7 (some .boolean), .methodLink RX6 51 yX6_within, .static yX6_within, .code yX6_within cX6_within 3 (some .boolean), .methodLink RX6 67 yX6_plainOf, .static yX6_plainOf, .code yX6_plainOf cX6_plainOf 4 (some .int)] ++ wsX60)
def wsX6_after : List Cond := .code yX6_after cX6_after 4 (some .int) :: ([.fieldLink RX6 7 "SchubertDeskModel" "one" "[I", .fieldLink RX6 13 "SchubertDeskModel" "other" "[I", .fieldLink RX6 16 "SchubertDeskModel" "third" "[I", .methodLink RX6 63 yX6_lays, .static yX6_lays, .initialized RX6, .code yX6_lays cX6_lays 7 (some .boolean), .methodLink RX6 51 yX6_within, .static yX6_within, .code yX6_within cX6_within 3 (some .boolean), .methodLink RX6 67 yX6_plainOf, .static yX6_plainOf, .code yX6_plainOf cX6_plainOf 4 (some .int)] ++ wsX60)
def wsX6_laysCode : List Cond := .code yX6_laysCode cX6_laysCode 10 none :: ([])
def wsX6_ofCode : List Cond := .code yX6_ofCode cX6_ofCode 5 (some .int) :: ([.fieldLink RX6 7 "SchubertDeskModel" "one" "[I", .methodLink RX6 51 yX6_within, .static yX6_within, .initialized RX6, .code yX6_within cX6_within 3 (some .boolean), .methodLink RX6 73 yX6_laysCode, .instanceMethod yX6_laysCode, .selects RX6 yX6_laysCode yX6_laysCode, .code yX6_laysCode cX6_laysCode 10 none, .methodLink RX6 67 yX6_plainOf, .static yX6_plainOf, .code yX6_plainOf cX6_plainOf 4 (some .int)] ++ wsX60)
def wsX6_manyFrom : List Cond := .code yX6_manyFrom cX6_manyFrom 5 (some .int) :: ([])
def wsX6_below : List Cond := .code yX6_below cX6_below 5 (some .int) :: ([.fieldLink RX6 7 "SchubertDeskModel" "one" "[I", .fieldLink RX6 13 "SchubertDeskModel" "other" "[I", .methodLink RX6 63 yX6_lays, .static yX6_lays, .initialized RX6, .code yX6_lays cX6_lays 7 (some .boolean), .methodLink RX6 51 yX6_within, .static yX6_within, .code yX6_within cX6_within 3 (some .boolean), .methodLink RX6 77 yX6_manyFrom, .static yX6_manyFrom, .code yX6_manyFrom cX6_manyFrom 5 (some .int)] ++ wsX60)
def wsX6_laysSmall : List Cond := .code yX6_laysSmall cX6_laysSmall 2 none :: ([.fieldLink RX6 13 "SchubertDeskModel" "other" "[I", .methodLink RX6 73 yX6_laysCode, .instanceMethod yX6_laysCode, .selects RX6 yX6_laysCode yX6_laysCode, .initialized RX6, .code yX6_laysCode cX6_laysCode 10 none] ++ wsX60)
def wsX6_smallOf : List Cond := .code yX6_smallOf cX6_smallOf 1 (some .int) :: ([.methodLink RX6 55 yX6_codeAt, .static yX6_codeAt, .initialized RX6, .code yX6_codeAt cX6_codeAt 4 (some .int)])
def wsX6_findWays : List Cond := .code yX6_findWays cX6_findWays 4 none :: ([.fieldLink RX6 13 "SchubertDeskModel" "other" "[I", .fieldLink RX6 19 "SchubertDeskModel" "waysTo" "[I", .methodLink RX6 81 yX6_laysSmall, .instanceMethod yX6_laysSmall, .selects RX6 yX6_laysSmall yX6_laysSmall, .initialized RX6, .code yX6_laysSmall cX6_laysSmall 2 none, .methodLink RX6 73 yX6_laysCode, .instanceMethod yX6_laysCode, .selects RX6 yX6_laysCode yX6_laysCode, .code yX6_laysCode cX6_laysCode 10 none, .methodLink RX6 85 yX6_exchange, .static yX6_exchange, .code yX6_exchange cX6_exchange 4 none, .methodLink RX6 89 yX6_smallOf, .static yX6_smallOf, .code yX6_smallOf cX6_smallOf 1 (some .int), .methodLink RX6 55 yX6_codeAt, .static yX6_codeAt, .code yX6_codeAt cX6_codeAt 4 (some .int)] ++ wsX60)
def wsX6_words_r1 : List Cond := [Cond.fieldLink RX6 7 "SchubertDeskModel" "one" "[I", Cond.fieldLink RX6 19 "SchubertDeskModel" "waysTo" "[I", Cond.methodLink RX6 63 yX6_lays, Cond.static yX6_lays, Cond.initialized RX6, Cond.code yX6_lays cX6_lays 7 (some .boolean), Cond.methodLink RX6 51 yX6_within, Cond.static yX6_within, Cond.code yX6_within cX6_within 3 (some .boolean), Cond.methodLink RX6 92 yX6_isSmall, Cond.static yX6_isSmall, Cond.code yX6_isSmall cX6_isSmall 3 (some .boolean), Cond.methodLink RX6 70 yX6_lengthOf, Cond.static yX6_lengthOf, Cond.code yX6_lengthOf cX6_lengthOf 3 (some .int), Cond.methodLink RX6 55 yX6_codeAt, Cond.static yX6_codeAt, Cond.code yX6_codeAt cX6_codeAt 4 (some .int), Cond.methodLink RX6 96 yX6_findWays, Cond.instanceMethod yX6_findWays, Cond.selects RX6 yX6_findWays yX6_findWays, Cond.code yX6_findWays cX6_findWays 4 none, Cond.fieldLink RX6 13 "SchubertDeskModel" "other" "[I", Cond.methodLink RX6 81 yX6_laysSmall]
def wsX6_words_r2 : List Cond := [Cond.instanceMethod yX6_laysSmall, Cond.selects RX6 yX6_laysSmall yX6_laysSmall, Cond.code yX6_laysSmall cX6_laysSmall 2 none, Cond.methodLink RX6 73 yX6_laysCode, Cond.instanceMethod yX6_laysCode, Cond.selects RX6 yX6_laysCode yX6_laysCode, Cond.code yX6_laysCode cX6_laysCode 10 none, Cond.methodLink RX6 85 yX6_exchange, Cond.static yX6_exchange, Cond.code yX6_exchange cX6_exchange 4 none, Cond.methodLink RX6 89 yX6_smallOf, Cond.static yX6_smallOf, Cond.code yX6_smallOf cX6_smallOf 1 (some .int)]
def wsX6_words : List Cond := .code yX6_words cX6_words 5 (some .int) :: ((wsX6_words_r1 ++ wsX6_words_r2) ++ wsX60)
def wsX6_cellOf : List Cond := .code yX6_cellOf cX6_cellOf 4 (some .int) :: ([])
def wsX6_isCell : List Cond := .code yX6_isCell cX6_isCell 4 (some .boolean) :: ([.methodLink RX6 51 yX6_within, .static yX6_within, .initialized RX6, .code yX6_within cX6_within 3 (some .boolean)])
def wsX6_exponentAt : List Cond := .code yX6_exponentAt cX6_exponentAt 2 (some .int) :: ([])
def wsX6_strideOf : List Cond := .code yX6_strideOf cX6_strideOf 1 (some .int) :: ([])
def wsX6_differs : List Cond := .code yX6_differs cX6_differs 12 none :: ([.fieldLink RX6 26 "SchubertDeskModel" "then" "[J", .methodLink RX6 99 yX6_strideOf, .static yX6_strideOf, .initialized RX6, .code yX6_strideOf cX6_strideOf 1 (some .int), .methodLink RX6 103 yX6_exponentAt, .static yX6_exponentAt, .code yX6_exponentAt cX6_exponentAt 2 (some .int)] ++ wsX60)
def wsX6_findS : List Cond := .code yX6_findS cX6_findS 5 none :: ([.fieldLink RX6 29 "SchubertDeskModel" "steps" "[I", .fieldLink RX6 22 "SchubertDeskModel" "poly" "[J", .methodLink RX6 55 yX6_codeAt, .static yX6_codeAt, .initialized RX6, .code yX6_codeAt cX6_codeAt 4 (some .int), .methodLink RX6 85 yX6_exchange, .static yX6_exchange, .code yX6_exchange cX6_exchange 4 none, .methodLink RX6 107 yX6_cellOf, .static yX6_cellOf, .code yX6_cellOf cX6_cellOf 4 (some .int), .methodLink RX6 111 yX6_differs, .instanceMethod yX6_differs, .selects RX6 yX6_differs yX6_differs, .code yX6_differs cX6_differs 12 none, .fieldLink RX6 26 "SchubertDeskModel" "then" "[J", .methodLink RX6 99 yX6_strideOf, .static yX6_strideOf, .code yX6_strideOf cX6_strideOf 1 (some .int), .methodLink RX6 103 yX6_exponentAt, .static yX6_exponentAt, .code yX6_exponentAt cX6_exponentAt 2 (some .int)] ++ wsX60)
def wsX6_termsOf : List Cond := .code yX6_termsOf cX6_termsOf 3 (some .int) :: ([])
def wsX6_number_r1 : List Cond := [Cond.fieldLink RX6 7 "SchubertDeskModel" "one" "[I", Cond.fieldLink RX6 22 "SchubertDeskModel" "poly" "[J", Cond.methodLink RX6 63 yX6_lays, Cond.static yX6_lays, Cond.initialized RX6, Cond.code yX6_lays cX6_lays 7 (some .boolean), Cond.methodLink RX6 51 yX6_within, Cond.static yX6_within, Cond.code yX6_within cX6_within 3 (some .boolean), Cond.methodLink RX6 115 yX6_isFit, Cond.static yX6_isFit, Cond.code yX6_isFit cX6_isFit 1 (some .boolean), Cond.methodLink RX6 59 yX6_descentsOf, Cond.static yX6_descentsOf, Cond.code yX6_descentsOf cX6_descentsOf 3 (some .int), Cond.methodLink RX6 118 yX6_findS, Cond.instanceMethod yX6_findS, Cond.selects RX6 yX6_findS yX6_findS, Cond.code yX6_findS cX6_findS 5 none, Cond.fieldLink RX6 29 "SchubertDeskModel" "steps" "[I", Cond.methodLink RX6 55 yX6_codeAt, Cond.static yX6_codeAt, Cond.code yX6_codeAt cX6_codeAt 4 (some .int), Cond.methodLink RX6 85 yX6_exchange]
def wsX6_number_r2 : List Cond := [Cond.static yX6_exchange, Cond.code yX6_exchange cX6_exchange 4 none, Cond.methodLink RX6 107 yX6_cellOf, Cond.static yX6_cellOf, Cond.code yX6_cellOf cX6_cellOf 4 (some .int), Cond.methodLink RX6 111 yX6_differs, Cond.instanceMethod yX6_differs, Cond.selects RX6 yX6_differs yX6_differs, Cond.code yX6_differs cX6_differs 12 none, Cond.fieldLink RX6 26 "SchubertDeskModel" "then" "[J", Cond.methodLink RX6 99 yX6_strideOf, Cond.static yX6_strideOf, Cond.code yX6_strideOf cX6_strideOf 1 (some .int), Cond.methodLink RX6 103 yX6_exponentAt, Cond.static yX6_exponentAt, Cond.code yX6_exponentAt cX6_exponentAt 2 (some .int), Cond.methodLink RX6 122 yX6_isCell, Cond.static yX6_isCell, Cond.code yX6_isCell cX6_isCell 4 (some .boolean)]
def wsX6_number : List Cond := .code yX6_number cX6_number 6 (some .int) :: ((wsX6_number_r1 ++ wsX6_number_r2) ++ wsX60)
def wsX6_terms_r1 : List Cond := [Cond.fieldLink RX6 7 "SchubertDeskModel" "one" "[I", Cond.fieldLink RX6 22 "SchubertDeskModel" "poly" "[J", Cond.methodLink RX6 63 yX6_lays, Cond.static yX6_lays, Cond.initialized RX6, Cond.code yX6_lays cX6_lays 7 (some .boolean), Cond.methodLink RX6 51 yX6_within, Cond.static yX6_within, Cond.code yX6_within cX6_within 3 (some .boolean), Cond.methodLink RX6 115 yX6_isFit, Cond.static yX6_isFit, Cond.code yX6_isFit cX6_isFit 1 (some .boolean), Cond.methodLink RX6 59 yX6_descentsOf, Cond.static yX6_descentsOf, Cond.code yX6_descentsOf cX6_descentsOf 3 (some .int), Cond.methodLink RX6 118 yX6_findS, Cond.instanceMethod yX6_findS, Cond.selects RX6 yX6_findS yX6_findS, Cond.code yX6_findS cX6_findS 5 none, Cond.fieldLink RX6 29 "SchubertDeskModel" "steps" "[I", Cond.methodLink RX6 55 yX6_codeAt, Cond.static yX6_codeAt, Cond.code yX6_codeAt cX6_codeAt 4 (some .int), Cond.methodLink RX6 85 yX6_exchange]
def wsX6_terms_r2 : List Cond := [Cond.static yX6_exchange, Cond.code yX6_exchange cX6_exchange 4 none, Cond.methodLink RX6 107 yX6_cellOf, Cond.static yX6_cellOf, Cond.code yX6_cellOf cX6_cellOf 4 (some .int), Cond.methodLink RX6 111 yX6_differs, Cond.instanceMethod yX6_differs, Cond.selects RX6 yX6_differs yX6_differs, Cond.code yX6_differs cX6_differs 12 none, Cond.fieldLink RX6 26 "SchubertDeskModel" "then" "[J", Cond.methodLink RX6 99 yX6_strideOf, Cond.static yX6_strideOf, Cond.code yX6_strideOf cX6_strideOf 1 (some .int), Cond.methodLink RX6 103 yX6_exponentAt, Cond.static yX6_exponentAt, Cond.code yX6_exponentAt cX6_exponentAt 2 (some .int), Cond.methodLink RX6 126 yX6_termsOf, Cond.static yX6_termsOf, Cond.code yX6_termsOf cX6_termsOf 3 (some .int)]
def wsX6_terms : List Cond := .code yX6_terms cX6_terms 2 (some .int) :: ((wsX6_terms_r1 ++ wsX6_terms_r2) ++ wsX60)
def wsX6_power : List Cond := .code yX6_power cX6_power 5 (some .long) :: ([])
def wsX6_isX : List Cond := .code yX6_isX cX6_isX 1 (some .boolean) :: ([.methodLink RX6 51 yX6_within, .static yX6_within, .initialized RX6, .code yX6_within cX6_within 3 (some .boolean)])
def wsX6_value_r1 : List Cond := [Cond.fieldLink RX6 7 "SchubertDeskModel" "one" "[I", Cond.constantLong RX6 134 (-9223372036854775808), Cond.fieldLink RX6 22 "SchubertDeskModel" "poly" "[J", Cond.methodLink RX6 63 yX6_lays, Cond.static yX6_lays, Cond.initialized RX6, Cond.code yX6_lays cX6_lays 7 (some .boolean), Cond.methodLink RX6 51 yX6_within, Cond.static yX6_within, Cond.code yX6_within cX6_within 3 (some .boolean), Cond.methodLink RX6 130 yX6_isX, Cond.static yX6_isX, Cond.code yX6_isX cX6_isX 1 (some .boolean), Cond.methodLink RX6 115 yX6_isFit, Cond.static yX6_isFit, Cond.code yX6_isFit cX6_isFit 1 (some .boolean), Cond.methodLink RX6 59 yX6_descentsOf, Cond.static yX6_descentsOf, Cond.code yX6_descentsOf cX6_descentsOf 3 (some .int), Cond.methodLink RX6 118 yX6_findS, Cond.instanceMethod yX6_findS, Cond.selects RX6 yX6_findS yX6_findS, Cond.code yX6_findS cX6_findS 5 none, Cond.fieldLink RX6 29 "SchubertDeskModel" "steps" "[I"]
def wsX6_value_r2 : List Cond := [Cond.methodLink RX6 55 yX6_codeAt, Cond.static yX6_codeAt, Cond.code yX6_codeAt cX6_codeAt 4 (some .int), Cond.methodLink RX6 85 yX6_exchange, Cond.static yX6_exchange, Cond.code yX6_exchange cX6_exchange 4 none, Cond.methodLink RX6 107 yX6_cellOf, Cond.static yX6_cellOf, Cond.code yX6_cellOf cX6_cellOf 4 (some .int), Cond.methodLink RX6 111 yX6_differs, Cond.instanceMethod yX6_differs, Cond.selects RX6 yX6_differs yX6_differs, Cond.code yX6_differs cX6_differs 12 none, Cond.fieldLink RX6 26 "SchubertDeskModel" "then" "[J", Cond.methodLink RX6 99 yX6_strideOf, Cond.static yX6_strideOf, Cond.code yX6_strideOf cX6_strideOf 1 (some .int), Cond.methodLink RX6 103 yX6_exponentAt, Cond.static yX6_exponentAt, Cond.code yX6_exponentAt cX6_exponentAt 2 (some .int), Cond.methodLink RX6 136 yX6_power, Cond.static yX6_power, Cond.code yX6_power cX6_power 5 (some .long)]
def wsX6_value : List Cond := .code yX6_value cX6_value 9 (some .long) :: ((wsX6_value_r1 ++ wsX6_value_r2) ++ wsX60)
def wsX6_becomes : List Cond := .code yX6_becomes cX6_becomes 2 (some .int) :: ([.fieldLink RX6 35 "SchubertDeskModel" "next" "[J", .constantLong RX6 140 (1000000000), .constantLong RX6 142 (-1000000000), .fieldLink RX6 32 "SchubertDeskModel" "sheet" "[J", .fieldLink RX6 144 "SchubertDeskModel" "isParted" "Z", .methodLink RX6 126 yX6_termsOf, .static yX6_termsOf, .initialized RX6, .code yX6_termsOf cX6_termsOf 3 (some .int)] ++ wsX60)
def wsX6_wipe : List Cond := .code yX6_wipe cX6_wipe 3 (some .int) :: ([.fieldLink RX6 32 "SchubertDeskModel" "sheet" "[J", .fieldLink RX6 144 "SchubertDeskModel" "isParted" "Z", .methodLink RX6 126 yX6_termsOf, .static yX6_termsOf, .initialized RX6, .code yX6_termsOf cX6_termsOf 3 (some .int)] ++ wsX60)
def wsX6_add_r1 : List Cond := [Cond.fieldLink RX6 7 "SchubertDeskModel" "one" "[I", Cond.fieldLink RX6 35 "SchubertDeskModel" "next" "[J", Cond.fieldLink RX6 32 "SchubertDeskModel" "sheet" "[J", Cond.fieldLink RX6 22 "SchubertDeskModel" "poly" "[J", Cond.methodLink RX6 51 yX6_within, Cond.static yX6_within, Cond.initialized RX6, Cond.code yX6_within cX6_within 3 (some .boolean), Cond.methodLink RX6 63 yX6_lays, Cond.static yX6_lays, Cond.code yX6_lays cX6_lays 7 (some .boolean), Cond.methodLink RX6 115 yX6_isFit, Cond.static yX6_isFit, Cond.code yX6_isFit cX6_isFit 1 (some .boolean), Cond.methodLink RX6 59 yX6_descentsOf, Cond.static yX6_descentsOf, Cond.code yX6_descentsOf cX6_descentsOf 3 (some .int), Cond.methodLink RX6 118 yX6_findS, Cond.instanceMethod yX6_findS, Cond.selects RX6 yX6_findS yX6_findS, Cond.code yX6_findS cX6_findS 5 none, Cond.fieldLink RX6 29 "SchubertDeskModel" "steps" "[I", Cond.methodLink RX6 55 yX6_codeAt, Cond.static yX6_codeAt]
def wsX6_add_r2 : List Cond := [Cond.code yX6_codeAt cX6_codeAt 4 (some .int), Cond.methodLink RX6 85 yX6_exchange, Cond.static yX6_exchange, Cond.code yX6_exchange cX6_exchange 4 none, Cond.methodLink RX6 107 yX6_cellOf, Cond.static yX6_cellOf, Cond.code yX6_cellOf cX6_cellOf 4 (some .int), Cond.methodLink RX6 111 yX6_differs, Cond.instanceMethod yX6_differs, Cond.selects RX6 yX6_differs yX6_differs, Cond.code yX6_differs cX6_differs 12 none, Cond.fieldLink RX6 26 "SchubertDeskModel" "then" "[J", Cond.methodLink RX6 99 yX6_strideOf, Cond.static yX6_strideOf, Cond.code yX6_strideOf cX6_strideOf 1 (some .int), Cond.methodLink RX6 103 yX6_exponentAt, Cond.static yX6_exponentAt, Cond.code yX6_exponentAt cX6_exponentAt 2 (some .int), Cond.methodLink RX6 148 yX6_becomes, Cond.instanceMethod yX6_becomes, Cond.selects RX6 yX6_becomes yX6_becomes, Cond.code yX6_becomes cX6_becomes 2 (some .int), Cond.constantLong RX6 140 (1000000000), Cond.constantLong RX6 142 (-1000000000)]
def wsX6_add_r3 : List Cond := [Cond.fieldLink RX6 144 "SchubertDeskModel" "isParted" "Z", Cond.methodLink RX6 126 yX6_termsOf, Cond.static yX6_termsOf, Cond.code yX6_termsOf cX6_termsOf 3 (some .int)]
def wsX6_add : List Cond := .code yX6_add cX6_add 4 (some .int) :: ((wsX6_add_r1 ++ (wsX6_add_r2 ++ wsX6_add_r3)) ++ wsX60)
def wsX6_wideOf : List Cond := .code yX6_wideOf cX6_wideOf 1 (some .int) :: ([.methodLink RX6 103 yX6_exponentAt, .static yX6_exponentAt, .initialized RX6, .code yX6_exponentAt cX6_exponentAt 2 (some .int)])
def wsX6_findProduct : List Cond := .code yX6_findProduct cX6_findProduct 3 none :: ([.constant RX6 38 (36465), .fieldLink RX6 39 "SchubertDeskModel" "wide" "[J", .fieldLink RX6 32 "SchubertDeskModel" "sheet" "[J", .fieldLink RX6 22 "SchubertDeskModel" "poly" "[J", .methodLink RX6 152 yX6_wideOf, .static yX6_wideOf, .initialized RX6, .code yX6_wideOf cX6_wideOf 1 (some .int), .methodLink RX6 103 yX6_exponentAt, .static yX6_exponentAt, .code yX6_exponentAt cX6_exponentAt 2 (some .int)] ++ wsX60)
def wsX6_keeps : List Cond := .code yX6_keeps cX6_keeps 3 (some .boolean) :: ([.fieldLink RX6 35 "SchubertDeskModel" "next" "[J", .fieldLink RX6 39 "SchubertDeskModel" "wide" "[J", .constant RX6 38 (36465), .methodLink RX6 152 yX6_wideOf, .static yX6_wideOf, .initialized RX6, .code yX6_wideOf cX6_wideOf 1 (some .int), .methodLink RX6 103 yX6_exponentAt, .static yX6_exponentAt, .code yX6_exponentAt cX6_exponentAt 2 (some .int)] ++ wsX60)
def wsX6_multiply_r1 : List Cond := [Cond.fieldLink RX6 7 "SchubertDeskModel" "one" "[I", Cond.methodLink RX6 63 yX6_lays, Cond.static yX6_lays, Cond.initialized RX6, Cond.code yX6_lays cX6_lays 7 (some .boolean), Cond.methodLink RX6 51 yX6_within, Cond.static yX6_within, Cond.code yX6_within cX6_within 3 (some .boolean), Cond.methodLink RX6 115 yX6_isFit, Cond.static yX6_isFit, Cond.code yX6_isFit cX6_isFit 1 (some .boolean), Cond.methodLink RX6 59 yX6_descentsOf, Cond.static yX6_descentsOf, Cond.code yX6_descentsOf cX6_descentsOf 3 (some .int), Cond.methodLink RX6 118 yX6_findS, Cond.instanceMethod yX6_findS, Cond.selects RX6 yX6_findS yX6_findS, Cond.code yX6_findS cX6_findS 5 none, Cond.fieldLink RX6 29 "SchubertDeskModel" "steps" "[I", Cond.fieldLink RX6 22 "SchubertDeskModel" "poly" "[J", Cond.methodLink RX6 55 yX6_codeAt, Cond.static yX6_codeAt, Cond.code yX6_codeAt cX6_codeAt 4 (some .int), Cond.methodLink RX6 85 yX6_exchange]
def wsX6_multiply_r2 : List Cond := [Cond.static yX6_exchange, Cond.code yX6_exchange cX6_exchange 4 none, Cond.methodLink RX6 107 yX6_cellOf, Cond.static yX6_cellOf, Cond.code yX6_cellOf cX6_cellOf 4 (some .int), Cond.methodLink RX6 111 yX6_differs, Cond.instanceMethod yX6_differs, Cond.selects RX6 yX6_differs yX6_differs, Cond.code yX6_differs cX6_differs 12 none, Cond.fieldLink RX6 26 "SchubertDeskModel" "then" "[J", Cond.methodLink RX6 99 yX6_strideOf, Cond.static yX6_strideOf, Cond.code yX6_strideOf cX6_strideOf 1 (some .int), Cond.methodLink RX6 103 yX6_exponentAt, Cond.static yX6_exponentAt, Cond.code yX6_exponentAt cX6_exponentAt 2 (some .int), Cond.methodLink RX6 155 yX6_findProduct, Cond.instanceMethod yX6_findProduct, Cond.selects RX6 yX6_findProduct yX6_findProduct, Cond.code yX6_findProduct cX6_findProduct 3 none, Cond.constant RX6 38 (36465), Cond.fieldLink RX6 39 "SchubertDeskModel" "wide" "[J", Cond.fieldLink RX6 32 "SchubertDeskModel" "sheet" "[J", Cond.methodLink RX6 152 yX6_wideOf]
def wsX6_multiply_r3 : List Cond := [Cond.static yX6_wideOf, Cond.code yX6_wideOf cX6_wideOf 1 (some .int), Cond.methodLink RX6 158 yX6_keeps, Cond.instanceMethod yX6_keeps, Cond.selects RX6 yX6_keeps yX6_keeps, Cond.code yX6_keeps cX6_keeps 3 (some .boolean), Cond.fieldLink RX6 35 "SchubertDeskModel" "next" "[J", Cond.methodLink RX6 148 yX6_becomes, Cond.instanceMethod yX6_becomes, Cond.selects RX6 yX6_becomes yX6_becomes, Cond.code yX6_becomes cX6_becomes 2 (some .int), Cond.constantLong RX6 140 (1000000000), Cond.constantLong RX6 142 (-1000000000), Cond.fieldLink RX6 144 "SchubertDeskModel" "isParted" "Z", Cond.methodLink RX6 126 yX6_termsOf, Cond.static yX6_termsOf, Cond.code yX6_termsOf cX6_termsOf 3 (some .int)]
def wsX6_multiply : List Cond := .code yX6_multiply cX6_multiply 2 (some .int) :: ((wsX6_multiply_r1 ++ (wsX6_multiply_r2 ++ wsX6_multiply_r3)) ++ wsX60)
def wsX6_difference_r1 : List Cond := [Cond.fieldLink RX6 35 "SchubertDeskModel" "next" "[J", Cond.fieldLink RX6 32 "SchubertDeskModel" "sheet" "[J", Cond.methodLink RX6 51 yX6_within, Cond.static yX6_within, Cond.initialized RX6, Cond.code yX6_within cX6_within 3 (some .boolean), Cond.methodLink RX6 111 yX6_differs, Cond.instanceMethod yX6_differs, Cond.selects RX6 yX6_differs yX6_differs, Cond.code yX6_differs cX6_differs 12 none, Cond.fieldLink RX6 26 "SchubertDeskModel" "then" "[J", Cond.methodLink RX6 99 yX6_strideOf, Cond.static yX6_strideOf, Cond.code yX6_strideOf cX6_strideOf 1 (some .int), Cond.methodLink RX6 103 yX6_exponentAt, Cond.static yX6_exponentAt, Cond.code yX6_exponentAt cX6_exponentAt 2 (some .int), Cond.methodLink RX6 148 yX6_becomes, Cond.instanceMethod yX6_becomes, Cond.selects RX6 yX6_becomes yX6_becomes, Cond.code yX6_becomes cX6_becomes 2 (some .int), Cond.constantLong RX6 140 (1000000000), Cond.constantLong RX6 142 (-1000000000), Cond.fieldLink RX6 144 "SchubertDeskModel" "isParted" "Z"]
def wsX6_difference_r2 : List Cond := [Cond.methodLink RX6 126 yX6_termsOf, Cond.static yX6_termsOf, Cond.code yX6_termsOf cX6_termsOf 3 (some .int)]
def wsX6_difference : List Cond := .code yX6_difference cX6_difference 3 (some .int) :: ((wsX6_difference_r1 ++ wsX6_difference_r2) ++ wsX60)
def wsX6_sheet : List Cond := .code yX6_sheet cX6_sheet 5 (some .long) :: ([.constantLong RX6 134 (-9223372036854775808), .fieldLink RX6 32 "SchubertDeskModel" "sheet" "[J", .methodLink RX6 122 yX6_isCell, .static yX6_isCell, .initialized RX6, .code yX6_isCell cX6_isCell 4 (some .boolean), .methodLink RX6 51 yX6_within, .static yX6_within, .code yX6_within cX6_within 3 (some .boolean), .methodLink RX6 107 yX6_cellOf, .static yX6_cellOf, .code yX6_cellOf cX6_cellOf 4 (some .int)] ++ wsX60)
def wsX6_adds : List Cond := .code yX6_adds cX6_adds 5 none :: ([.fieldLink RX6 162 "SchubertDeskModel" "parts" "I", .fieldLink RX6 42 "SchubertDeskModel" "partOf" "[I", .fieldLink RX6 45 "SchubertDeskModel" "partTimes" "[J"] ++ wsX60)
def wsX6_findParts_r1 : List Cond := [Cond.fieldLink RX6 162 "SchubertDeskModel" "parts" "I", Cond.fieldLink RX6 35 "SchubertDeskModel" "next" "[J", Cond.fieldLink RX6 32 "SchubertDeskModel" "sheet" "[J", Cond.fieldLink RX6 13 "SchubertDeskModel" "other" "[I", Cond.fieldLink RX6 22 "SchubertDeskModel" "poly" "[J", Cond.fieldLink RX6 144 "SchubertDeskModel" "isParted" "Z", Cond.methodLink RX6 103 yX6_exponentAt, Cond.static yX6_exponentAt, Cond.initialized RX6, Cond.code yX6_exponentAt cX6_exponentAt 2 (some .int), Cond.methodLink RX6 73 yX6_laysCode, Cond.instanceMethod yX6_laysCode, Cond.selects RX6 yX6_laysCode yX6_laysCode, Cond.code yX6_laysCode cX6_laysCode 10 none, Cond.methodLink RX6 67 yX6_plainOf, Cond.static yX6_plainOf, Cond.code yX6_plainOf cX6_plainOf 4 (some .int), Cond.methodLink RX6 166 yX6_adds, Cond.instanceMethod yX6_adds, Cond.selects RX6 yX6_adds yX6_adds, Cond.code yX6_adds cX6_adds 5 none, Cond.fieldLink RX6 42 "SchubertDeskModel" "partOf" "[I", Cond.fieldLink RX6 45 "SchubertDeskModel" "partTimes" "[J", Cond.methodLink RX6 118 yX6_findS]
def wsX6_findParts_r2 : List Cond := [Cond.instanceMethod yX6_findS, Cond.selects RX6 yX6_findS yX6_findS, Cond.code yX6_findS cX6_findS 5 none, Cond.fieldLink RX6 29 "SchubertDeskModel" "steps" "[I", Cond.methodLink RX6 55 yX6_codeAt, Cond.static yX6_codeAt, Cond.code yX6_codeAt cX6_codeAt 4 (some .int), Cond.methodLink RX6 85 yX6_exchange, Cond.static yX6_exchange, Cond.code yX6_exchange cX6_exchange 4 none, Cond.methodLink RX6 107 yX6_cellOf, Cond.static yX6_cellOf, Cond.code yX6_cellOf cX6_cellOf 4 (some .int), Cond.methodLink RX6 111 yX6_differs, Cond.instanceMethod yX6_differs, Cond.selects RX6 yX6_differs yX6_differs, Cond.code yX6_differs cX6_differs 12 none, Cond.fieldLink RX6 26 "SchubertDeskModel" "then" "[J", Cond.methodLink RX6 99 yX6_strideOf, Cond.static yX6_strideOf, Cond.code yX6_strideOf cX6_strideOf 1 (some .int)]
def wsX6_findParts : List Cond := .code yX6_findParts cX6_findParts 5 none :: ((wsX6_findParts_r1 ++ wsX6_findParts_r2) ++ wsX60)
def wsX6_knowsParts_r1 : List Cond := [Cond.fieldLink RX6 144 "SchubertDeskModel" "isParted" "Z", Cond.methodLink RX6 170 yX6_findParts, Cond.instanceMethod yX6_findParts, Cond.selects RX6 yX6_findParts yX6_findParts, Cond.initialized RX6, Cond.code yX6_findParts cX6_findParts 5 none, Cond.fieldLink RX6 162 "SchubertDeskModel" "parts" "I", Cond.fieldLink RX6 35 "SchubertDeskModel" "next" "[J", Cond.fieldLink RX6 32 "SchubertDeskModel" "sheet" "[J", Cond.fieldLink RX6 13 "SchubertDeskModel" "other" "[I", Cond.fieldLink RX6 22 "SchubertDeskModel" "poly" "[J", Cond.methodLink RX6 103 yX6_exponentAt, Cond.static yX6_exponentAt, Cond.code yX6_exponentAt cX6_exponentAt 2 (some .int), Cond.methodLink RX6 73 yX6_laysCode, Cond.instanceMethod yX6_laysCode, Cond.selects RX6 yX6_laysCode yX6_laysCode, Cond.code yX6_laysCode cX6_laysCode 10 none, Cond.methodLink RX6 67 yX6_plainOf, Cond.static yX6_plainOf, Cond.code yX6_plainOf cX6_plainOf 4 (some .int), Cond.methodLink RX6 166 yX6_adds, Cond.instanceMethod yX6_adds, Cond.selects RX6 yX6_adds yX6_adds]
def wsX6_knowsParts_r2 : List Cond := [Cond.code yX6_adds cX6_adds 5 none, Cond.fieldLink RX6 42 "SchubertDeskModel" "partOf" "[I", Cond.fieldLink RX6 45 "SchubertDeskModel" "partTimes" "[J", Cond.methodLink RX6 118 yX6_findS, Cond.instanceMethod yX6_findS, Cond.selects RX6 yX6_findS yX6_findS, Cond.code yX6_findS cX6_findS 5 none, Cond.fieldLink RX6 29 "SchubertDeskModel" "steps" "[I", Cond.methodLink RX6 55 yX6_codeAt, Cond.static yX6_codeAt, Cond.code yX6_codeAt cX6_codeAt 4 (some .int), Cond.methodLink RX6 85 yX6_exchange, Cond.static yX6_exchange, Cond.code yX6_exchange cX6_exchange 4 none, Cond.methodLink RX6 107 yX6_cellOf, Cond.static yX6_cellOf, Cond.code yX6_cellOf cX6_cellOf 4 (some .int), Cond.methodLink RX6 111 yX6_differs, Cond.instanceMethod yX6_differs, Cond.selects RX6 yX6_differs yX6_differs, Cond.code yX6_differs cX6_differs 12 none, Cond.fieldLink RX6 26 "SchubertDeskModel" "then" "[J", Cond.methodLink RX6 99 yX6_strideOf, Cond.static yX6_strideOf]
def wsX6_knowsParts_r3 : List Cond := [Cond.code yX6_strideOf cX6_strideOf 1 (some .int)]
def wsX6_knowsParts : List Cond := .code yX6_knowsParts cX6_knowsParts 1 none :: ((wsX6_knowsParts_r1 ++ (wsX6_knowsParts_r2 ++ wsX6_knowsParts_r3)) ++ wsX60)
def wsX6_part_r1 : List Cond := [Cond.fieldLink RX6 162 "SchubertDeskModel" "parts" "I", Cond.fieldLink RX6 42 "SchubertDeskModel" "partOf" "[I", Cond.methodLink RX6 173 yX6_knowsParts, Cond.instanceMethod yX6_knowsParts, Cond.selects RX6 yX6_knowsParts yX6_knowsParts, Cond.initialized RX6, Cond.code yX6_knowsParts cX6_knowsParts 1 none, Cond.fieldLink RX6 144 "SchubertDeskModel" "isParted" "Z", Cond.methodLink RX6 170 yX6_findParts, Cond.instanceMethod yX6_findParts, Cond.selects RX6 yX6_findParts yX6_findParts, Cond.code yX6_findParts cX6_findParts 5 none, Cond.fieldLink RX6 35 "SchubertDeskModel" "next" "[J", Cond.fieldLink RX6 32 "SchubertDeskModel" "sheet" "[J", Cond.fieldLink RX6 13 "SchubertDeskModel" "other" "[I", Cond.fieldLink RX6 22 "SchubertDeskModel" "poly" "[J", Cond.methodLink RX6 103 yX6_exponentAt, Cond.static yX6_exponentAt, Cond.code yX6_exponentAt cX6_exponentAt 2 (some .int), Cond.methodLink RX6 73 yX6_laysCode, Cond.instanceMethod yX6_laysCode, Cond.selects RX6 yX6_laysCode yX6_laysCode, Cond.code yX6_laysCode cX6_laysCode 10 none, Cond.methodLink RX6 67 yX6_plainOf]
def wsX6_part_r2 : List Cond := [Cond.static yX6_plainOf, Cond.code yX6_plainOf cX6_plainOf 4 (some .int), Cond.methodLink RX6 166 yX6_adds, Cond.instanceMethod yX6_adds, Cond.selects RX6 yX6_adds yX6_adds, Cond.code yX6_adds cX6_adds 5 none, Cond.fieldLink RX6 45 "SchubertDeskModel" "partTimes" "[J", Cond.methodLink RX6 118 yX6_findS, Cond.instanceMethod yX6_findS, Cond.selects RX6 yX6_findS yX6_findS, Cond.code yX6_findS cX6_findS 5 none, Cond.fieldLink RX6 29 "SchubertDeskModel" "steps" "[I", Cond.methodLink RX6 55 yX6_codeAt, Cond.static yX6_codeAt, Cond.code yX6_codeAt cX6_codeAt 4 (some .int), Cond.methodLink RX6 85 yX6_exchange, Cond.static yX6_exchange, Cond.code yX6_exchange cX6_exchange 4 none, Cond.methodLink RX6 107 yX6_cellOf, Cond.static yX6_cellOf, Cond.code yX6_cellOf cX6_cellOf 4 (some .int), Cond.methodLink RX6 111 yX6_differs, Cond.instanceMethod yX6_differs, Cond.selects RX6 yX6_differs yX6_differs]
def wsX6_part_r3 : List Cond := [Cond.code yX6_differs cX6_differs 12 none, Cond.fieldLink RX6 26 "SchubertDeskModel" "then" "[J", Cond.methodLink RX6 99 yX6_strideOf, Cond.static yX6_strideOf, Cond.code yX6_strideOf cX6_strideOf 1 (some .int)]
def wsX6_part : List Cond := .code yX6_part cX6_part 2 (some .int) :: ((wsX6_part_r1 ++ (wsX6_part_r2 ++ wsX6_part_r3)) ++ wsX60)
def wsX6_times_r1 : List Cond := [Cond.fieldLink RX6 7 "SchubertDeskModel" "one" "[I", Cond.constantLong RX6 134 (-9223372036854775808), Cond.fieldLink RX6 162 "SchubertDeskModel" "parts" "I", Cond.fieldLink RX6 42 "SchubertDeskModel" "partOf" "[I", Cond.fieldLink RX6 45 "SchubertDeskModel" "partTimes" "[J", Cond.methodLink RX6 63 yX6_lays, Cond.static yX6_lays, Cond.initialized RX6, Cond.code yX6_lays cX6_lays 7 (some .boolean), Cond.methodLink RX6 51 yX6_within, Cond.static yX6_within, Cond.code yX6_within cX6_within 3 (some .boolean), Cond.methodLink RX6 115 yX6_isFit, Cond.static yX6_isFit, Cond.code yX6_isFit cX6_isFit 1 (some .boolean), Cond.methodLink RX6 59 yX6_descentsOf, Cond.static yX6_descentsOf, Cond.code yX6_descentsOf cX6_descentsOf 3 (some .int), Cond.methodLink RX6 173 yX6_knowsParts, Cond.instanceMethod yX6_knowsParts, Cond.selects RX6 yX6_knowsParts yX6_knowsParts, Cond.code yX6_knowsParts cX6_knowsParts 1 none, Cond.fieldLink RX6 144 "SchubertDeskModel" "isParted" "Z", Cond.methodLink RX6 170 yX6_findParts]
def wsX6_times_r2 : List Cond := [Cond.instanceMethod yX6_findParts, Cond.selects RX6 yX6_findParts yX6_findParts, Cond.code yX6_findParts cX6_findParts 5 none, Cond.fieldLink RX6 35 "SchubertDeskModel" "next" "[J", Cond.fieldLink RX6 32 "SchubertDeskModel" "sheet" "[J", Cond.fieldLink RX6 13 "SchubertDeskModel" "other" "[I", Cond.fieldLink RX6 22 "SchubertDeskModel" "poly" "[J", Cond.methodLink RX6 103 yX6_exponentAt, Cond.static yX6_exponentAt, Cond.code yX6_exponentAt cX6_exponentAt 2 (some .int), Cond.methodLink RX6 73 yX6_laysCode, Cond.instanceMethod yX6_laysCode, Cond.selects RX6 yX6_laysCode yX6_laysCode, Cond.code yX6_laysCode cX6_laysCode 10 none, Cond.methodLink RX6 67 yX6_plainOf, Cond.static yX6_plainOf, Cond.code yX6_plainOf cX6_plainOf 4 (some .int), Cond.methodLink RX6 166 yX6_adds, Cond.instanceMethod yX6_adds, Cond.selects RX6 yX6_adds yX6_adds, Cond.code yX6_adds cX6_adds 5 none, Cond.methodLink RX6 118 yX6_findS, Cond.instanceMethod yX6_findS, Cond.selects RX6 yX6_findS yX6_findS]
def wsX6_times_r3 : List Cond := [Cond.code yX6_findS cX6_findS 5 none, Cond.fieldLink RX6 29 "SchubertDeskModel" "steps" "[I", Cond.methodLink RX6 55 yX6_codeAt, Cond.static yX6_codeAt, Cond.code yX6_codeAt cX6_codeAt 4 (some .int), Cond.methodLink RX6 85 yX6_exchange, Cond.static yX6_exchange, Cond.code yX6_exchange cX6_exchange 4 none, Cond.methodLink RX6 107 yX6_cellOf, Cond.static yX6_cellOf, Cond.code yX6_cellOf cX6_cellOf 4 (some .int), Cond.methodLink RX6 111 yX6_differs, Cond.instanceMethod yX6_differs, Cond.selects RX6 yX6_differs yX6_differs, Cond.code yX6_differs cX6_differs 12 none, Cond.fieldLink RX6 26 "SchubertDeskModel" "then" "[J", Cond.methodLink RX6 99 yX6_strideOf, Cond.static yX6_strideOf, Cond.code yX6_strideOf cX6_strideOf 1 (some .int)]
def wsX6_times : List Cond := .code yX6_times cX6_times 4 (some .long) :: ((wsX6_times_r1 ++ (wsX6_times_r2 ++ wsX6_times_r3)) ++ wsX60)
def wsX6_bitOf : List Cond := .code yX6_bitOf cX6_bitOf 2 (some .int) :: ([])
def wsX6_isPlace : List Cond := .code yX6_isPlace cX6_isPlace 2 (some .boolean) :: ([.methodLink RX6 51 yX6_within, .static yX6_within, .initialized RX6, .code yX6_within cX6_within 3 (some .boolean)])
def wsX6_isCross : List Cond := .code yX6_isCross cX6_isCross 3 (some .boolean) :: ([.methodLink RX6 176 yX6_isPlace, .static yX6_isPlace, .initialized RX6, .code yX6_isPlace cX6_isPlace 2 (some .boolean), .methodLink RX6 51 yX6_within, .static yX6_within, .code yX6_within cX6_within 3 (some .boolean), .methodLink RX6 180 yX6_bitOf, .static yX6_bitOf, .code yX6_bitOf cX6_bitOf 2 (some .int)])
def wsX6_areTight : List Cond := .code yX6_areTight cX6_areTight 5 (some .boolean) :: ([.fieldLink RX6 13 "SchubertDeskModel" "other" "[I", .methodLink RX6 183 yX6_isCross, .static yX6_isCross, .initialized RX6, .code yX6_isCross cX6_isCross 3 (some .boolean), .methodLink RX6 176 yX6_isPlace, .static yX6_isPlace, .code yX6_isPlace cX6_isPlace 2 (some .boolean), .methodLink RX6 51 yX6_within, .static yX6_within, .code yX6_within cX6_within 3 (some .boolean), .methodLink RX6 180 yX6_bitOf, .static yX6_bitOf, .code yX6_bitOf cX6_bitOf 2 (some .int), .methodLink RX6 85 yX6_exchange, .static yX6_exchange, .code yX6_exchange cX6_exchange 4 none, .methodLink RX6 70 yX6_lengthOf, .static yX6_lengthOf, .code yX6_lengthOf cX6_lengthOf 3 (some .int), .methodLink RX6 55 yX6_codeAt, .static yX6_codeAt, .code yX6_codeAt cX6_codeAt 4 (some .int)] ++ wsX60)
def wsX6_makes_r1 : List Cond := [Cond.fieldLink RX6 13 "SchubertDeskModel" "other" "[I", Cond.methodLink RX6 51 yX6_within, Cond.static yX6_within, Cond.initialized RX6, Cond.code yX6_within cX6_within 3 (some .boolean), Cond.methodLink RX6 186 yX6_areTight, Cond.instanceMethod yX6_areTight, Cond.selects RX6 yX6_areTight yX6_areTight, Cond.code yX6_areTight cX6_areTight 5 (some .boolean), Cond.methodLink RX6 183 yX6_isCross, Cond.static yX6_isCross, Cond.code yX6_isCross cX6_isCross 3 (some .boolean), Cond.methodLink RX6 176 yX6_isPlace, Cond.static yX6_isPlace, Cond.code yX6_isPlace cX6_isPlace 2 (some .boolean), Cond.methodLink RX6 180 yX6_bitOf, Cond.static yX6_bitOf, Cond.code yX6_bitOf cX6_bitOf 2 (some .int), Cond.methodLink RX6 85 yX6_exchange, Cond.static yX6_exchange, Cond.code yX6_exchange cX6_exchange 4 none, Cond.methodLink RX6 70 yX6_lengthOf, Cond.static yX6_lengthOf, Cond.code yX6_lengthOf cX6_lengthOf 3 (some .int)]
def wsX6_makes_r2 : List Cond := [Cond.methodLink RX6 55 yX6_codeAt, Cond.static yX6_codeAt, Cond.code yX6_codeAt cX6_codeAt 4 (some .int), Cond.methodLink RX6 67 yX6_plainOf, Cond.static yX6_plainOf, Cond.code yX6_plainOf cX6_plainOf 4 (some .int)]
def wsX6_makes : List Cond := .code yX6_makes cX6_makes 2 (some .int) :: ((wsX6_makes_r1 ++ wsX6_makes_r2) ++ wsX60)
def wsX6_dream_r1 : List Cond := [Cond.fieldLink RX6 7 "SchubertDeskModel" "one" "[I", Cond.fieldLink RX6 13 "SchubertDeskModel" "other" "[I", Cond.methodLink RX6 63 yX6_lays, Cond.static yX6_lays, Cond.initialized RX6, Cond.code yX6_lays cX6_lays 7 (some .boolean), Cond.methodLink RX6 51 yX6_within, Cond.static yX6_within, Cond.code yX6_within cX6_within 3 (some .boolean), Cond.methodLink RX6 92 yX6_isSmall, Cond.static yX6_isSmall, Cond.code yX6_isSmall cX6_isSmall 3 (some .boolean), Cond.methodLink RX6 67 yX6_plainOf, Cond.static yX6_plainOf, Cond.code yX6_plainOf cX6_plainOf 4 (some .int), Cond.methodLink RX6 186 yX6_areTight, Cond.instanceMethod yX6_areTight, Cond.selects RX6 yX6_areTight yX6_areTight, Cond.code yX6_areTight cX6_areTight 5 (some .boolean), Cond.methodLink RX6 183 yX6_isCross, Cond.static yX6_isCross, Cond.code yX6_isCross cX6_isCross 3 (some .boolean), Cond.methodLink RX6 176 yX6_isPlace, Cond.static yX6_isPlace]
def wsX6_dream_r2 : List Cond := [Cond.code yX6_isPlace cX6_isPlace 2 (some .boolean), Cond.methodLink RX6 180 yX6_bitOf, Cond.static yX6_bitOf, Cond.code yX6_bitOf cX6_bitOf 2 (some .int), Cond.methodLink RX6 85 yX6_exchange, Cond.static yX6_exchange, Cond.code yX6_exchange cX6_exchange 4 none, Cond.methodLink RX6 70 yX6_lengthOf, Cond.static yX6_lengthOf, Cond.code yX6_lengthOf cX6_lengthOf 3 (some .int), Cond.methodLink RX6 55 yX6_codeAt, Cond.static yX6_codeAt, Cond.code yX6_codeAt cX6_codeAt 4 (some .int)]
def wsX6_dream : List Cond := .code yX6_dream cX6_dream 6 (some .int) :: ((wsX6_dream_r1 ++ wsX6_dream_r2) ++ wsX60)
def wsX6_finds : List Cond := .code yX6_finds cX6_finds 4 none :: ([.fieldLink RX6 189 "SchubertDeskModel" "found" "I", .fieldLink RX6 48 "SchubertDeskModel" "foundAt" "[I"] ++ wsX60)
def wsX6_foundBy : List Cond := .code yX6_foundBy cX6_foundBy 2 (some .int) :: ([.fieldLink RX6 189 "SchubertDeskModel" "found" "I", .fieldLink RX6 48 "SchubertDeskModel" "foundAt" "[I"] ++ wsX60)
def wsX6_areBoth : List Cond := .code yX6_areBoth cX6_areBoth 3 (some .boolean) :: ([.methodLink RX6 183 yX6_isCross, .static yX6_isCross, .initialized RX6, .code yX6_isCross cX6_isCross 3 (some .boolean), .methodLink RX6 176 yX6_isPlace, .static yX6_isPlace, .code yX6_isPlace cX6_isPlace 2 (some .boolean), .methodLink RX6 51 yX6_within, .static yX6_within, .code yX6_within cX6_within 3 (some .boolean), .methodLink RX6 180 yX6_bitOf, .static yX6_bitOf, .code yX6_bitOf cX6_bitOf 2 (some .int)])
def wsX6_climbs : List Cond := .code yX6_climbs cX6_climbs 5 none :: ([.methodLink RX6 192 yX6_areBoth, .static yX6_areBoth, .initialized RX6, .code yX6_areBoth cX6_areBoth 3 (some .boolean), .methodLink RX6 183 yX6_isCross, .static yX6_isCross, .code yX6_isCross cX6_isCross 3 (some .boolean), .methodLink RX6 176 yX6_isPlace, .static yX6_isPlace, .code yX6_isPlace cX6_isPlace 2 (some .boolean), .methodLink RX6 51 yX6_within, .static yX6_within, .code yX6_within cX6_within 3 (some .boolean), .methodLink RX6 180 yX6_bitOf, .static yX6_bitOf, .code yX6_bitOf cX6_bitOf 2 (some .int), .methodLink RX6 195 yX6_finds, .instanceMethod yX6_finds, .selects RX6 yX6_finds yX6_finds, .code yX6_finds cX6_finds 4 none, .fieldLink RX6 189 "SchubertDeskModel" "found" "I", .fieldLink RX6 48 "SchubertDeskModel" "foundAt" "[I"] ++ wsX60)
def wsX6_ladder_r1 : List Cond := [Cond.fieldLink RX6 189 "SchubertDeskModel" "found" "I", Cond.methodLink RX6 51 yX6_within, Cond.static yX6_within, Cond.initialized RX6, Cond.code yX6_within cX6_within 3 (some .boolean), Cond.methodLink RX6 183 yX6_isCross, Cond.static yX6_isCross, Cond.code yX6_isCross cX6_isCross 3 (some .boolean), Cond.methodLink RX6 176 yX6_isPlace, Cond.static yX6_isPlace, Cond.code yX6_isPlace cX6_isPlace 2 (some .boolean), Cond.methodLink RX6 180 yX6_bitOf, Cond.static yX6_bitOf, Cond.code yX6_bitOf cX6_bitOf 2 (some .int), Cond.methodLink RX6 198 yX6_climbs, Cond.instanceMethod yX6_climbs, Cond.selects RX6 yX6_climbs yX6_climbs, Cond.code yX6_climbs cX6_climbs 5 none, Cond.methodLink RX6 192 yX6_areBoth, Cond.static yX6_areBoth, Cond.code yX6_areBoth cX6_areBoth 3 (some .boolean), Cond.methodLink RX6 195 yX6_finds, Cond.instanceMethod yX6_finds, Cond.selects RX6 yX6_finds yX6_finds]
def wsX6_ladder_r2 : List Cond := [Cond.code yX6_finds cX6_finds 4 none, Cond.fieldLink RX6 48 "SchubertDeskModel" "foundAt" "[I", Cond.methodLink RX6 202 yX6_foundBy, Cond.instanceMethod yX6_foundBy, Cond.selects RX6 yX6_foundBy yX6_foundBy, Cond.code yX6_foundBy cX6_foundBy 2 (some .int)]
def wsX6_ladder : List Cond := .code yX6_ladder cX6_ladder 5 (some .int) :: ((wsX6_ladder_r1 ++ wsX6_ladder_r2) ++ wsX60)
def wsX6_rise_r1 : List Cond := [Cond.fieldLink RX6 7 "SchubertDeskModel" "one" "[I", Cond.constant RX6 205 (99999999), Cond.fieldLink RX6 189 "SchubertDeskModel" "found" "I", Cond.methodLink RX6 63 yX6_lays, Cond.static yX6_lays, Cond.initialized RX6, Cond.code yX6_lays cX6_lays 7 (some .boolean), Cond.methodLink RX6 51 yX6_within, Cond.static yX6_within, Cond.code yX6_within cX6_within 3 (some .boolean), Cond.methodLink RX6 70 yX6_lengthOf, Cond.static yX6_lengthOf, Cond.code yX6_lengthOf cX6_lengthOf 3 (some .int), Cond.methodLink RX6 55 yX6_codeAt, Cond.static yX6_codeAt, Cond.code yX6_codeAt cX6_codeAt 4 (some .int), Cond.methodLink RX6 85 yX6_exchange, Cond.static yX6_exchange, Cond.code yX6_exchange cX6_exchange 4 none, Cond.methodLink RX6 67 yX6_plainOf, Cond.static yX6_plainOf, Cond.code yX6_plainOf cX6_plainOf 4 (some .int), Cond.methodLink RX6 195 yX6_finds, Cond.instanceMethod yX6_finds]
def wsX6_rise_r2 : List Cond := [Cond.selects RX6 yX6_finds yX6_finds, Cond.code yX6_finds cX6_finds 4 none, Cond.fieldLink RX6 48 "SchubertDeskModel" "foundAt" "[I", Cond.methodLink RX6 202 yX6_foundBy, Cond.instanceMethod yX6_foundBy, Cond.selects RX6 yX6_foundBy yX6_foundBy, Cond.code yX6_foundBy cX6_foundBy 2 (some .int)]
def wsX6_rise : List Cond := .code yX6_rise cX6_rise 7 (some .int) :: ((wsX6_rise_r1 ++ wsX6_rise_r2) ++ wsX60)
def wsX6_lastDescent : List Cond := .code yX6_lastDescent cX6_lastDescent 2 (some .int) :: ([])
def wsX6_step_r1 : List Cond := [Cond.fieldLink RX6 7 "SchubertDeskModel" "one" "[I", Cond.fieldLink RX6 189 "SchubertDeskModel" "found" "I", Cond.methodLink RX6 63 yX6_lays, Cond.static yX6_lays, Cond.initialized RX6, Cond.code yX6_lays cX6_lays 7 (some .boolean), Cond.methodLink RX6 51 yX6_within, Cond.static yX6_within, Cond.code yX6_within cX6_within 3 (some .boolean), Cond.methodLink RX6 59 yX6_descentsOf, Cond.static yX6_descentsOf, Cond.code yX6_descentsOf cX6_descentsOf 3 (some .int), Cond.methodLink RX6 70 yX6_lengthOf, Cond.static yX6_lengthOf, Cond.code yX6_lengthOf cX6_lengthOf 3 (some .int), Cond.methodLink RX6 55 yX6_codeAt, Cond.static yX6_codeAt, Cond.code yX6_codeAt cX6_codeAt 4 (some .int), Cond.methodLink RX6 206 yX6_lastDescent, Cond.static yX6_lastDescent, Cond.code yX6_lastDescent cX6_lastDescent 2 (some .int), Cond.methodLink RX6 85 yX6_exchange, Cond.static yX6_exchange, Cond.code yX6_exchange cX6_exchange 4 none]
def wsX6_step_r2 : List Cond := [Cond.methodLink RX6 67 yX6_plainOf, Cond.static yX6_plainOf, Cond.code yX6_plainOf cX6_plainOf 4 (some .int), Cond.methodLink RX6 195 yX6_finds, Cond.instanceMethod yX6_finds, Cond.selects RX6 yX6_finds yX6_finds, Cond.code yX6_finds cX6_finds 4 none, Cond.fieldLink RX6 48 "SchubertDeskModel" "foundAt" "[I", Cond.methodLink RX6 202 yX6_foundBy, Cond.instanceMethod yX6_foundBy, Cond.selects RX6 yX6_foundBy yX6_foundBy, Cond.code yX6_foundBy cX6_foundBy 2 (some .int)]
def wsX6_step : List Cond := .code yX6_step cX6_step 8 (some .int) :: ((wsX6_step_r1 ++ wsX6_step_r2) ++ wsX60)
def wsX6_shape : List Cond := .code yX6_shape cX6_shape 5 (some .int) :: ([.fieldLink RX6 7 "SchubertDeskModel" "one" "[I", .methodLink RX6 63 yX6_lays, .static yX6_lays, .initialized RX6, .code yX6_lays cX6_lays 7 (some .boolean), .methodLink RX6 51 yX6_within, .static yX6_within, .code yX6_within cX6_within 3 (some .boolean), .methodLink RX6 59 yX6_descentsOf, .static yX6_descentsOf, .code yX6_descentsOf cX6_descentsOf 3 (some .int), .methodLink RX6 206 yX6_lastDescent, .static yX6_lastDescent, .code yX6_lastDescent cX6_lastDescent 2 (some .int)] ++ wsX60)
def wsX6_hasThree : List Cond := .code yX6_hasThree cX6_hasThree 6 (some .boolean) :: ([])
def wsX6_hasFour : List Cond := .code yX6_hasFour cX6_hasFour 7 (some .boolean) :: ([])
def wsX6_avoids : List Cond := .code yX6_avoids cX6_avoids 4 (some .int) :: ([.fieldLink RX6 7 "SchubertDeskModel" "one" "[I", .methodLink RX6 63 yX6_lays, .static yX6_lays, .initialized RX6, .code yX6_lays cX6_lays 7 (some .boolean), .methodLink RX6 51 yX6_within, .static yX6_within, .code yX6_within cX6_within 3 (some .boolean), .methodLink RX6 209 yX6_hasThree, .static yX6_hasThree, .code yX6_hasThree cX6_hasThree 6 (some .boolean), .methodLink RX6 212 yX6_hasFour, .static yX6_hasFour, .code yX6_hasFour cX6_hasFour 7 (some .boolean)] ++ wsX60)
def wsJ9_max_7cf53 : List Cond := .code yJ9_max_7cf53 cJ9_max_7cf53 2 (some .int) :: ([])
def wsJ9_min_7cf53 : List Cond := .code yJ9_min_7cf53 cJ9_min_7cf53 2 (some .int) :: ([])
def wsL_law_r1 : List Cond := [Cond.classLink RL 7 RX5, Cond.instantiable RX5 8, Cond.initialized RX5, Cond.classLink RL 10 RX6, Cond.instantiable RX6 16, Cond.initialized RX6, Cond.methodLink RL 9 yX5_init, Cond.instanceMethod yX5_init, Cond.code yX5_init cX5_init 1 none, Cond.methodLink RX5 3 objectInit, Cond.instanceMethod objectInit, Cond.code objectInit ⟨#[0xb1]⟩ 1 none, Cond.classLink RX5 9 RX1, Cond.instantiable RX1 1, Cond.initialized RX1, Cond.fieldLink RX5 12 "SchubertDesk" "first" "LSchubertDesk$Digits;", Cond.fieldLink RX5 18 "SchubertDesk" "second" "LSchubertDesk$Digits;", Cond.fieldLink RX5 21 "SchubertDesk" "third" "LSchubertDesk$Digits;", Cond.classLink RX5 24 RX0, Cond.instantiable RX0 2, Cond.initialized RX0, Cond.fieldLink RX5 29 "SchubertDesk" "list" "LSchubertDesk$Ascending;", Cond.classLink RX5 33 RX2, Cond.instantiable RX2 2]
def wsL_law_r2 : List Cond := [Cond.initialized RX2, Cond.fieldLink RX5 36 "SchubertDesk" "page" "LSchubertDesk$Grid;", Cond.fieldLink RX5 40 "SchubertDesk" "draft" "LSchubertDesk$Grid;", Cond.classLink RX5 43 RX4, Cond.instantiable RX4 4, Cond.initialized RX4, Cond.fieldLink RX5 46 "SchubertDesk" "single" "LSchubertDesk$Single;", Cond.classLink RX5 50 RX3, Cond.instantiable RX3 3, Cond.initialized RX3, Cond.fieldLink RX5 53 "SchubertDesk" "parts" "LSchubertDesk$Parts;", Cond.instanceMethod yX1_init, Cond.code yX1_init cX1_init 1 none, Cond.methodLink RX1 3 objectInit, Cond.arrayClass .int, Cond.fieldLink RX1 9 "SchubertDesk$Digits" "row" "[I", Cond.methodLink RX5 26 yX0_init, Cond.instanceMethod yX0_init, Cond.code yX0_init cX0_init 2 none, Cond.methodLink RX0 3 objectInit, Cond.fieldLink RX0 9 "SchubertDesk$Ascending" "size" "I", Cond.methodLink RX0 15 Lib.Math.max.name, Cond.static Lib.Math.max.name, Cond.initialized "java/lang/Math"]
def wsL_law_r3 : List Cond := [Cond.code Lib.Math.max.name Lib.Math.max.code 2 (some .int), Cond.fieldLink RX0 21 "SchubertDesk$Ascending" "items" "[I", Cond.instanceMethod yX2_init, Cond.code yX2_init cX2_init 1 none, Cond.methodLink RX2 3 objectInit, Cond.arrayClass .long, Cond.fieldLink RX2 9 "SchubertDesk$Grid" "cell" "[J", Cond.fieldLink RX2 15 "SchubertDesk$Grid" "top" "[I", Cond.instanceMethod yX4_init, Cond.code yX4_init cX4_init 1 none, Cond.methodLink RX4 3 objectInit, Cond.classLink RX4 9 RX2, Cond.fieldLink RX4 12 "SchubertDesk$Single" "grid" "LSchubertDesk$Grid;", Cond.fieldLink RX4 18 "SchubertDesk$Single" "code" "[I", Cond.fieldLink RX4 22 "SchubertDesk$Single" "way" "[I", Cond.fieldLink RX4 25 "SchubertDesk$Single" "made" "I", Cond.instanceMethod yX3_init, Cond.code yX3_init cX3_init 1 none, Cond.methodLink RX3 3 objectInit, Cond.classLink RX3 9 RX2, Cond.fieldLink RX3 12 "SchubertDesk$Parts" "counts" "LSchubertDesk$Grid;", Cond.classLink RX3 18 RX0, Cond.fieldLink RX3 23 "SchubertDesk$Parts" "numbers" "LSchubertDesk$Ascending;", Cond.fieldLink RX3 27 "SchubertDesk$Parts" "known" "Z"]
def wsL_law_r4 : List Cond := [Cond.methodLink RX3 20 yX0_init, Cond.methodLink RL 12 yX6_init, Cond.instanceMethod yX6_init, Cond.code yX6_init cX6_init 1 none, Cond.methodLink RX6 1 objectInit, Cond.fieldLink RX6 7 "SchubertDeskModel" "one" "[I", Cond.fieldLink RX6 13 "SchubertDeskModel" "other" "[I", Cond.fieldLink RX6 16 "SchubertDeskModel" "third" "[I", Cond.fieldLink RX6 19 "SchubertDeskModel" "waysTo" "[I", Cond.fieldLink RX6 22 "SchubertDeskModel" "poly" "[J", Cond.fieldLink RX6 26 "SchubertDeskModel" "then" "[J", Cond.fieldLink RX6 29 "SchubertDeskModel" "steps" "[I", Cond.fieldLink RX6 32 "SchubertDeskModel" "sheet" "[J", Cond.fieldLink RX6 35 "SchubertDeskModel" "next" "[J", Cond.constant RX6 38 (36465), Cond.fieldLink RX6 39 "SchubertDeskModel" "wide" "[J", Cond.fieldLink RX6 42 "SchubertDeskModel" "partOf" "[I", Cond.fieldLink RX6 45 "SchubertDeskModel" "partTimes" "[J", Cond.fieldLink RX6 48 "SchubertDeskModel" "foundAt" "[I", Cond.methodLink RL 13 yX5_plain, Cond.instanceMethod yX5_plain, Cond.selects RX5 yX5_plain yX5_plain, Cond.code yX5_plain cX5_plain 2 (some .int), Cond.methodLink RX5 57 yX1_read]
def wsL_law_r5 : List Cond := [Cond.instanceMethod yX1_read, Cond.selects RX1 yX1_read yX1_read, Cond.code yX1_read cX1_read 7 (some .boolean), Cond.constant RX1 15 (987654321), Cond.methodLink RX1 16 yX1_stayInPlace, Cond.instanceMethod yX1_stayInPlace, Cond.selects RX1 yX1_stayInPlace yX1_stayInPlace, Cond.code yX1_stayInPlace cX1_stayInPlace 2 none, Cond.methodLink RX5 61 yX1_plainNumber, Cond.instanceMethod yX1_plainNumber, Cond.selects RX1 yX1_plainNumber yX1_plainNumber, Cond.code yX1_plainNumber cX1_plainNumber 4 (some .int), Cond.methodLink RX1 43 yX1_plainCount, Cond.instanceMethod yX1_plainCount, Cond.selects RX1 yX1_plainCount yX1_plainCount, Cond.code yX1_plainCount cX1_plainCount 2 (some .int), Cond.methodLink RL 17 yX6_plain, Cond.instanceMethod yX6_plain, Cond.selects RX6 yX6_plain yX6_plain, Cond.code yX6_plain cX6_plain 2 (some .int), Cond.methodLink RX6 63 yX6_lays, Cond.static yX6_lays, Cond.code yX6_lays cX6_lays 7 (some .boolean), Cond.methodLink RX6 51 yX6_within]
def wsL_law_r6 : List Cond := [Cond.static yX6_within, Cond.code yX6_within cX6_within 3 (some .boolean), Cond.methodLink RX6 67 yX6_plainOf, Cond.static yX6_plainOf, Cond.code yX6_plainOf cX6_plainOf 4 (some .int), Cond.methodLink RL 18 yX5_length, Cond.instanceMethod yX5_length, Cond.selects RX5 yX5_length yX5_length, Cond.code yX5_length cX5_length 2 (some .int), Cond.methodLink RX5 65 yX1_inversions, Cond.instanceMethod yX1_inversions, Cond.selects RX1 yX1_inversions yX1_inversions, Cond.code yX1_inversions cX1_inversions 3 (some .int), Cond.methodLink RX1 47 yX1_codeAt, Cond.instanceMethod yX1_codeAt, Cond.selects RX1 yX1_codeAt yX1_codeAt, Cond.code yX1_codeAt cX1_codeAt 4 (some .int), Cond.methodLink RX1 19 yX1_digit, Cond.instanceMethod yX1_digit, Cond.selects RX1 yX1_digit yX1_digit, Cond.code yX1_digit cX1_digit 2 (some .int), Cond.methodLink RL 21 yX6_length, Cond.instanceMethod yX6_length, Cond.selects RX6 yX6_length yX6_length]
def wsL_law_r7 : List Cond := [Cond.code yX6_length cX6_length 2 (some .int), Cond.methodLink RX6 70 yX6_lengthOf, Cond.static yX6_lengthOf, Cond.code yX6_lengthOf cX6_lengthOf 3 (some .int), Cond.methodLink RX6 55 yX6_codeAt, Cond.static yX6_codeAt, Cond.code yX6_codeAt cX6_codeAt 4 (some .int), Cond.methodLink RL 22 yX5_code, Cond.instanceMethod yX5_code, Cond.selects RX5 yX5_code yX5_code, Cond.code yX5_code cX5_code 3 (some .int), Cond.methodLink RX5 68 yX1_codeAt, Cond.methodLink RL 26 yX6_code, Cond.instanceMethod yX6_code, Cond.selects RX6 yX6_code yX6_code, Cond.code yX6_code cX6_code 3 (some .int), Cond.methodLink RL 27 yX5_descents, Cond.instanceMethod yX5_descents, Cond.selects RX5 yX5_descents yX5_descents, Cond.code yX5_descents cX5_descents 2 (some .int), Cond.methodLink RX5 72 yX1_descentSet, Cond.instanceMethod yX1_descentSet, Cond.selects RX1 yX1_descentSet yX1_descentSet, Cond.code yX1_descentSet cX1_descentSet 3 (some .int)]
def wsL_law_r8 : List Cond := [Cond.methodLink RL 30 yX6_descents, Cond.instanceMethod yX6_descents, Cond.selects RX6 yX6_descents yX6_descents, Cond.code yX6_descents cX6_descents 2 (some .int), Cond.methodLink RX6 59 yX6_descentsOf, Cond.static yX6_descentsOf, Cond.code yX6_descentsOf cX6_descentsOf 3 (some .int), Cond.methodLink RL 31 yX5_inverse, Cond.instanceMethod yX5_inverse, Cond.selects RX5 yX5_inverse yX5_inverse, Cond.code yX5_inverse cX5_inverse 2 (some .int), Cond.methodLink RX5 75 yX1_becomeInverse, Cond.instanceMethod yX1_becomeInverse, Cond.selects RX1 yX1_becomeInverse yX1_becomeInverse, Cond.code yX1_becomeInverse cX1_becomeInverse 3 none, Cond.methodLink RX1 23 yX1_put, Cond.instanceMethod yX1_put, Cond.selects RX1 yX1_put yX1_put, Cond.code yX1_put cX1_put 3 none, Cond.methodLink RL 34 yX6_inverse, Cond.instanceMethod yX6_inverse, Cond.selects RX6 yX6_inverse yX6_inverse, Cond.code yX6_inverse cX6_inverse 3 (some .int), Cond.methodLink RL 35 yX5_after]
def wsL_law_r9 : List Cond := [Cond.instanceMethod yX5_after, Cond.selects RX5 yX5_after yX5_after, Cond.code yX5_after cX5_after 3 (some .int), Cond.methodLink RX5 79 yX1_becomeProduct, Cond.instanceMethod yX1_becomeProduct, Cond.selects RX1 yX1_becomeProduct yX1_becomeProduct, Cond.code yX1_becomeProduct cX1_becomeProduct 4 none, Cond.methodLink RL 38 yX6_after, Cond.instanceMethod yX6_after, Cond.selects RX6 yX6_after yX6_after, Cond.code yX6_after cX6_after 4 (some .int), Cond.methodLink RL 39 yX5_ofCode, Cond.instanceMethod yX5_ofCode, Cond.selects RX5 yX5_ofCode yX5_ofCode, Cond.code yX5_ofCode cX5_ofCode 6 (some .int), Cond.methodLink RX5 83 yX5_cellOf, Cond.static yX5_cellOf, Cond.code yX5_cellOf cX5_cellOf 4 (some .int), Cond.methodLink RX5 105 yX5_isAnyNegative, Cond.static yX5_isAnyNegative, Cond.code yX5_isAnyNegative cX5_isAnyNegative 4 (some .boolean), Cond.methodLink RX5 87 yX1_becomeOfCode, Cond.instanceMethod yX1_becomeOfCode, Cond.selects RX1 yX1_becomeOfCode yX1_becomeOfCode]
def wsL_law_r10 : List Cond := [Cond.code yX1_becomeOfCode cX1_becomeOfCode 5 none, Cond.static yX5_exponentAt, Cond.code yX5_exponentAt cX5_exponentAt 2 (some .int), Cond.methodLink RX1 31 yX1_unusedAbove, Cond.static yX1_unusedAbove, Cond.code yX1_unusedAbove cX1_unusedAbove 4 (some .int), Cond.methodLink RL 43 yX6_ofCode, Cond.instanceMethod yX6_ofCode, Cond.selects RX6 yX6_ofCode yX6_ofCode, Cond.code yX6_ofCode cX6_ofCode 5 (some .int), Cond.methodLink RX6 73 yX6_laysCode, Cond.instanceMethod yX6_laysCode, Cond.selects RX6 yX6_laysCode yX6_laysCode, Cond.code yX6_laysCode cX6_laysCode 10 none, Cond.methodLink RL 44 yX5_below, Cond.instanceMethod yX5_below, Cond.selects RX5 yX5_below yX5_below, Cond.code yX5_below cX5_below 3 (some .int), Cond.methodLink RX5 90 yX1_isBelow, Cond.instanceMethod yX1_isBelow, Cond.selects RX1 yX1_isBelow yX1_isBelow, Cond.code yX1_isBelow cX1_isBelow 5 (some .boolean), Cond.methodLink RL 47 yX6_below, Cond.instanceMethod yX6_below]
def wsL_law_r11 : List Cond := [Cond.selects RX6 yX6_below yX6_below, Cond.code yX6_below cX6_below 5 (some .int), Cond.methodLink RX6 77 yX6_manyFrom, Cond.static yX6_manyFrom, Cond.code yX6_manyFrom cX6_manyFrom 5 (some .int), Cond.methodLink RL 48 yX5_words, Cond.instanceMethod yX5_words, Cond.selects RX5 yX5_words yX5_words, Cond.code yX5_words cX5_words 2 (some .int), Cond.methodLink RX5 94 yX1_isSmall, Cond.instanceMethod yX1_isSmall, Cond.selects RX1 yX1_isSmall yX1_isSmall, Cond.code yX1_isSmall cX1_isSmall 1 (some .boolean), Cond.methodLink RX5 98 yX5_waysDown, Cond.static yX5_waysDown, Cond.code yX5_waysDown cX5_waysDown 5 (some .int), Cond.methodLink RX5 212 yX1_digit, Cond.methodLink RX5 208 yX1_exchange, Cond.instanceMethod yX1_exchange, Cond.selects RX1 yX1_exchange yX1_exchange, Cond.code yX1_exchange cX1_exchange 4 none, Cond.methodLink RL 51 yX6_words, Cond.instanceMethod yX6_words, Cond.selects RX6 yX6_words yX6_words]
def wsL_law_r12 : List Cond := [Cond.code yX6_words cX6_words 5 (some .int), Cond.methodLink RX6 92 yX6_isSmall, Cond.static yX6_isSmall, Cond.code yX6_isSmall cX6_isSmall 3 (some .boolean), Cond.methodLink RX6 96 yX6_findWays, Cond.instanceMethod yX6_findWays, Cond.selects RX6 yX6_findWays yX6_findWays, Cond.code yX6_findWays cX6_findWays 4 none, Cond.methodLink RX6 81 yX6_laysSmall, Cond.instanceMethod yX6_laysSmall, Cond.selects RX6 yX6_laysSmall yX6_laysSmall, Cond.code yX6_laysSmall cX6_laysSmall 2 none, Cond.methodLink RX6 85 yX6_exchange, Cond.static yX6_exchange, Cond.code yX6_exchange cX6_exchange 4 none, Cond.methodLink RX6 89 yX6_smallOf, Cond.static yX6_smallOf, Cond.code yX6_smallOf cX6_smallOf 1 (some .int), Cond.methodLink RL 52 yX5_number, Cond.instanceMethod yX5_number, Cond.selects RX5 yX5_number yX5_number, Cond.code yX5_number cX5_number 7 (some .int), Cond.fieldLink RX5 112 "SchubertDesk$Single" "grid" "LSchubertDesk$Grid;", Cond.methodLink RX5 102 yX5_fitCell]
def wsL_law_r13 : List Cond := [Cond.instanceMethod yX5_fitCell, Cond.selects RX5 yX5_fitCell yX5_fitCell, Cond.code yX5_fitCell cX5_fitCell 2 (some .int), Cond.methodLink RX5 221 yX1_isFit, Cond.instanceMethod yX1_isFit, Cond.selects RX1 yX1_isFit yX1_isFit, Cond.code yX1_isFit cX1_isFit 1 (some .boolean), Cond.methodLink RX1 54 yX1_lastDescent, Cond.instanceMethod yX1_lastDescent, Cond.selects RX1 yX1_lastDescent yX1_lastDescent, Cond.code yX1_lastDescent cX1_lastDescent 3 (some .int), Cond.methodLink RX5 224 yX1_codeCell, Cond.instanceMethod yX1_codeCell, Cond.selects RX1 yX1_codeCell yX1_codeCell, Cond.code yX1_codeCell cX1_codeCell 1 (some .int), Cond.methodLink RX5 109 yX4_make, Cond.instanceMethod yX4_make, Cond.selects RX4 yX4_make yX4_make, Cond.code yX4_make cX4_make 5 none, Cond.methodLink RX4 33 yX4_climb, Cond.instanceMethod yX4_climb, Cond.selects RX4 yX4_climb yX4_climb, Cond.code yX4_climb cX4_climb 3 (some .int), Cond.methodLink RX4 49 yX4_firstRise]
def wsL_law_r14 : List Cond := [Cond.instanceMethod yX4_firstRise, Cond.selects RX4 yX4_firstRise yX4_firstRise, Cond.code yX4_firstRise cX4_firstRise 2 (some .int), Cond.methodLink RX4 52 yX4_exchangeAt, Cond.instanceMethod yX4_exchangeAt, Cond.selects RX4 yX4_exchangeAt yX4_exchangeAt, Cond.code yX4_exchangeAt cX4_exchangeAt 3 none, Cond.methodLink RX4 41 yX2_becomeMonomial, Cond.instanceMethod yX2_becomeMonomial, Cond.selects RX2 yX2_becomeMonomial yX2_becomeMonomial, Cond.code yX2_becomeMonomial cX2_becomeMonomial 3 none, Cond.methodLink RX2 35 yX2_clear, Cond.instanceMethod yX2_clear, Cond.selects RX2 yX2_clear yX2_clear, Cond.code yX2_clear cX2_clear 1 none, Cond.methodLink RX2 19 yJ7_fill_d0a16, Cond.static yJ7_fill_d0a16, Cond.initialized RJ7, Cond.code yJ7_fill_d0a16 cJ7_fill_d0a16 5 none, Cond.methodLink RX4 45 yX2_differ, Cond.instanceMethod yX2_differ, Cond.selects RX2 yX2_differ yX2_differ, Cond.code yX2_differ cX2_differ 5 none, Cond.methodLink RX2 45 Lib.Math.max.name]
def wsL_law_r15 : List Cond := [Cond.methodLink RX2 65 yX2_lowerDegree, Cond.instanceMethod yX2_lowerDegree, Cond.selects RX2 yX2_lowerDegree yX2_lowerDegree, Cond.code yX2_lowerDegree cX2_lowerDegree 7 none, Cond.methodLink RX2 72 yX2_lowerLine, Cond.instanceMethod yX2_lowerLine, Cond.selects RX2 yX2_lowerLine yX2_lowerLine, Cond.code yX2_lowerLine cX2_lowerLine 10 none, Cond.methodLink RX2 76 Lib.Math.min.name, Cond.static Lib.Math.min.name, Cond.code Lib.Math.min.name Lib.Math.min.code 2 (some .int), Cond.methodLink RX2 79 yX2_pairCell, Cond.static yX2_pairCell, Cond.code yX2_pairCell cX2_pairCell 4 (some .int), Cond.methodLink RX2 61 yX2_at, Cond.instanceMethod yX2_at, Cond.selects RX2 yX2_at yX2_at, Cond.code yX2_at cX2_at 2 (some .long), Cond.methodLink RX2 82 yX2_put, Cond.instanceMethod yX2_put, Cond.selects RX2 yX2_put yX2_put, Cond.code yX2_put cX2_put 4 none, Cond.methodLink RX5 115 yX2_at, Cond.methodLink RL 56 yX6_number]
def wsL_law_r16 : List Cond := [Cond.instanceMethod yX6_number, Cond.selects RX6 yX6_number yX6_number, Cond.code yX6_number cX6_number 6 (some .int), Cond.methodLink RX6 115 yX6_isFit, Cond.static yX6_isFit, Cond.code yX6_isFit cX6_isFit 1 (some .boolean), Cond.methodLink RX6 118 yX6_findS, Cond.instanceMethod yX6_findS, Cond.selects RX6 yX6_findS yX6_findS, Cond.code yX6_findS cX6_findS 5 none, Cond.methodLink RX6 107 yX6_cellOf, Cond.static yX6_cellOf, Cond.code yX6_cellOf cX6_cellOf 4 (some .int), Cond.methodLink RX6 111 yX6_differs, Cond.instanceMethod yX6_differs, Cond.selects RX6 yX6_differs yX6_differs, Cond.code yX6_differs cX6_differs 12 none, Cond.methodLink RX6 99 yX6_strideOf, Cond.static yX6_strideOf, Cond.code yX6_strideOf cX6_strideOf 1 (some .int), Cond.methodLink RX6 103 yX6_exponentAt, Cond.static yX6_exponentAt, Cond.code yX6_exponentAt cX6_exponentAt 2 (some .int), Cond.methodLink RX6 122 yX6_isCell]
def wsL_law_r17 : List Cond := [Cond.static yX6_isCell, Cond.code yX6_isCell cX6_isCell 4 (some .boolean), Cond.methodLink RL 57 yX5_terms, Cond.instanceMethod yX5_terms, Cond.selects RX5 yX5_terms yX5_terms, Cond.code yX5_terms cX5_terms 3 (some .int), Cond.methodLink RX5 119 yX2_filled, Cond.instanceMethod yX2_filled, Cond.selects RX2 yX2_filled yX2_filled, Cond.code yX2_filled cX2_filled 3 (some .int), Cond.methodLink RL 60 yX6_terms, Cond.instanceMethod yX6_terms, Cond.selects RX6 yX6_terms yX6_terms, Cond.code yX6_terms cX6_terms 2 (some .int), Cond.methodLink RX6 126 yX6_termsOf, Cond.static yX6_termsOf, Cond.code yX6_termsOf cX6_termsOf 3 (some .int), Cond.methodLink RL 61 yX5_value, Cond.instanceMethod yX5_value, Cond.selects RX5 yX5_value yX5_value, Cond.code yX5_value cX5_value 7 (some .long), Cond.constantLong RX5 125 (-9223372036854775808), Cond.methodLink RX5 122 yX5_isPoint, Cond.static yX5_isPoint]
def wsL_law_r18 : List Cond := [Cond.code yX5_isPoint cX5_isPoint 1 (some .boolean), Cond.methodLink RX5 127 yX2_valueAt, Cond.instanceMethod yX2_valueAt, Cond.selects RX2 yX2_valueAt yX2_valueAt, Cond.code yX2_valueAt cX2_valueAt 14 (some .long), Cond.methodLink RX2 57 yX2_valueOfLine, Cond.instanceMethod yX2_valueOfLine, Cond.selects RX2 yX2_valueOfLine yX2_valueOfLine, Cond.code yX2_valueOfLine cX2_valueOfLine 6 (some .long), Cond.methodLink RL 65 yX6_value, Cond.instanceMethod yX6_value, Cond.selects RX6 yX6_value yX6_value, Cond.code yX6_value cX6_value 9 (some .long), Cond.constantLong RX6 134 (-9223372036854775808), Cond.methodLink RX6 130 yX6_isX, Cond.static yX6_isX, Cond.code yX6_isX cX6_isX 1 (some .boolean), Cond.methodLink RX6 136 yX6_power, Cond.static yX6_power, Cond.code yX6_power cX6_power 5 (some .long), Cond.methodLink RL 66 yX5_wipe, Cond.instanceMethod yX5_wipe, Cond.selects RX5 yX5_wipe yX5_wipe, Cond.code yX5_wipe cX5_wipe 2 (some .int)]
def wsL_law_r19 : List Cond := [Cond.methodLink RX5 131 yX2_clear, Cond.methodLink RX5 134 yX3_forget, Cond.instanceMethod yX3_forget, Cond.selects RX3 yX3_forget yX3_forget, Cond.code yX3_forget cX3_forget 1 none, Cond.methodLink RL 70 yX6_wipe, Cond.instanceMethod yX6_wipe, Cond.selects RX6 yX6_wipe yX6_wipe, Cond.code yX6_wipe cX6_wipe 3 (some .int), Cond.fieldLink RX6 144 "SchubertDeskModel" "isParted" "Z", Cond.methodLink RL 71 yX5_add, Cond.instanceMethod yX5_add, Cond.selects RX5 yX5_add yX5_add, Cond.code yX5_add cX5_add 4 (some .int), Cond.methodLink RX5 137 yX2_copy, Cond.instanceMethod yX2_copy, Cond.selects RX2 yX2_copy yX2_copy, Cond.code yX2_copy cX2_copy 2 none, Cond.methodLink RX2 25 arraycopyName, Cond.native arraycopyName, Cond.static arraycopyName, Cond.initialized "java/lang/System", Cond.methodLink RX5 141 yX2_addTimes, Cond.instanceMethod yX2_addTimes]
def wsL_law_r20 : List Cond := [Cond.selects RX2 yX2_addTimes yX2_addTimes, Cond.code yX2_addTimes cX2_addTimes 6 none, Cond.methodLink RX5 145 yX5_takeDraft, Cond.instanceMethod yX5_takeDraft, Cond.selects RX5 yX5_takeDraft yX5_takeDraft, Cond.code yX5_takeDraft cX5_takeDraft 1 (some .int), Cond.methodLink RX5 227 yX2_isWithinLimit, Cond.instanceMethod yX2_isWithinLimit, Cond.selects RX2 yX2_isWithinLimit yX2_isWithinLimit, Cond.code yX2_isWithinLimit cX2_isWithinLimit 2 (some .boolean), Cond.constantLong RX2 31 (1000000000), Cond.constantLong RX2 33 (-1000000000), Cond.methodLink RL 74 yX6_add, Cond.instanceMethod yX6_add, Cond.selects RX6 yX6_add yX6_add, Cond.code yX6_add cX6_add 4 (some .int), Cond.methodLink RX6 148 yX6_becomes, Cond.instanceMethod yX6_becomes, Cond.selects RX6 yX6_becomes yX6_becomes, Cond.code yX6_becomes cX6_becomes 2 (some .int), Cond.constantLong RX6 140 (1000000000), Cond.constantLong RX6 142 (-1000000000), Cond.methodLink RL 75 yX5_multiply, Cond.instanceMethod yX5_multiply]
def wsL_law_r21 : List Cond := [Cond.selects RX5 yX5_multiply yX5_multiply, Cond.code yX5_multiply cX5_multiply 3 (some .int), Cond.methodLink RX5 148 yX2_measure, Cond.instanceMethod yX2_measure, Cond.selects RX2 yX2_measure yX2_measure, Cond.code yX2_measure cX2_measure 3 none, Cond.methodLink RX2 42 yJ7_fill_53178, Cond.static yJ7_fill_53178, Cond.code yJ7_fill_53178 cJ7_fill_53178 4 none, Cond.methodLink RX5 151 yX2_hasRoomFor, Cond.instanceMethod yX2_hasRoomFor, Cond.selects RX2 yX2_hasRoomFor yX2_hasRoomFor, Cond.code yX2_hasRoomFor cX2_hasRoomFor 3 (some .boolean), Cond.methodLink RX5 155 yX2_becomeProduct, Cond.instanceMethod yX2_becomeProduct, Cond.selects RX2 yX2_becomeProduct yX2_becomeProduct, Cond.code yX2_becomeProduct cX2_becomeProduct 7 none, Cond.methodLink RL 78 yX6_multiply, Cond.instanceMethod yX6_multiply, Cond.selects RX6 yX6_multiply yX6_multiply, Cond.code yX6_multiply cX6_multiply 2 (some .int), Cond.methodLink RX6 155 yX6_findProduct, Cond.instanceMethod yX6_findProduct, Cond.selects RX6 yX6_findProduct yX6_findProduct]
def wsL_law_r22 : List Cond := [Cond.code yX6_findProduct cX6_findProduct 3 none, Cond.methodLink RX6 152 yX6_wideOf, Cond.static yX6_wideOf, Cond.code yX6_wideOf cX6_wideOf 1 (some .int), Cond.methodLink RX6 158 yX6_keeps, Cond.instanceMethod yX6_keeps, Cond.selects RX6 yX6_keeps yX6_keeps, Cond.code yX6_keeps cX6_keeps 3 (some .boolean), Cond.methodLink RL 79 yX5_difference, Cond.instanceMethod yX5_difference, Cond.selects RX5 yX5_difference yX5_difference, Cond.code yX5_difference cX5_difference 2 (some .int), Cond.methodLink RX5 158 yX2_degreeBound, Cond.instanceMethod yX2_degreeBound, Cond.selects RX2 yX2_degreeBound yX2_degreeBound, Cond.code yX2_degreeBound cX2_degreeBound 1 (some .int), Cond.methodLink RX5 161 yX2_differ, Cond.methodLink RL 82 yX6_difference, Cond.instanceMethod yX6_difference, Cond.selects RX6 yX6_difference yX6_difference, Cond.code yX6_difference cX6_difference 3 (some .int), Cond.methodLink RL 83 yX5_sheet, Cond.instanceMethod yX5_sheet, Cond.selects RX5 yX5_sheet yX5_sheet]
def wsL_law_r23 : List Cond := [Cond.code yX5_sheet cX5_sheet 5 (some .long), Cond.methodLink RL 87 yX6_sheet, Cond.instanceMethod yX6_sheet, Cond.selects RX6 yX6_sheet yX6_sheet, Cond.code yX6_sheet cX6_sheet 5 (some .long), Cond.methodLink RL 88 yX5_part, Cond.instanceMethod yX5_part, Cond.selects RX5 yX5_part yX5_part, Cond.code yX5_part cX5_part 2 (some .int), Cond.fieldLink RX5 169 "SchubertDesk$Parts" "numbers" "LSchubertDesk$Ascending;", Cond.methodLink RX5 165 yX3_find, Cond.instanceMethod yX3_find, Cond.selects RX3 yX3_find yX3_find, Cond.code yX3_find cX3_find 7 none, Cond.fieldLink RX3 47 "SchubertDesk$Single" "grid" "LSchubertDesk$Grid;", Cond.methodLink RX3 31 yX2_copy, Cond.methodLink RX3 35 yX0_clear, Cond.instanceMethod yX0_clear, Cond.selects RX0 yX0_clear yX0_clear, Cond.code yX0_clear cX0_clear 1 none, Cond.methodLink RX3 38 yX2_at, Cond.methodLink RX3 42 yX4_make, Cond.methodLink RX3 50 yX2_addTimes, Cond.methodLink RX3 54 yX1_becomeOfCode]
def wsL_law_r24 : List Cond := [Cond.methodLink RX3 59 yX1_plainNumber, Cond.methodLink RX3 63 yX0_put, Cond.instanceMethod yX0_put, Cond.selects RX0 yX0_put yX0_put, Cond.code yX0_put cX0_put 4 none, Cond.methodLink RX0 25 arraycopyName, Cond.methodLink RX5 172 yX0_answer, Cond.instanceMethod yX0_answer, Cond.selects RX0 yX0_answer yX0_answer, Cond.code yX0_answer cX0_answer 2 (some .int), Cond.methodLink RL 91 yX6_part, Cond.instanceMethod yX6_part, Cond.selects RX6 yX6_part yX6_part, Cond.code yX6_part cX6_part 2 (some .int), Cond.fieldLink RX6 162 "SchubertDeskModel" "parts" "I", Cond.methodLink RX6 173 yX6_knowsParts, Cond.instanceMethod yX6_knowsParts, Cond.selects RX6 yX6_knowsParts yX6_knowsParts, Cond.code yX6_knowsParts cX6_knowsParts 1 none, Cond.methodLink RX6 170 yX6_findParts, Cond.instanceMethod yX6_findParts, Cond.selects RX6 yX6_findParts yX6_findParts, Cond.code yX6_findParts cX6_findParts 5 none, Cond.methodLink RX6 166 yX6_adds]
def wsL_law_r25 : List Cond := [Cond.instanceMethod yX6_adds, Cond.selects RX6 yX6_adds yX6_adds, Cond.code yX6_adds cX6_adds 5 none, Cond.methodLink RL 92 yX5_times, Cond.instanceMethod yX5_times, Cond.selects RX5 yX5_times yX5_times, Cond.code yX5_times cX5_times 3 (some .long), Cond.fieldLink RX5 175 "SchubertDesk$Parts" "counts" "LSchubertDesk$Grid;", Cond.methodLink RL 96 yX6_times, Cond.instanceMethod yX6_times, Cond.selects RX6 yX6_times yX6_times, Cond.code yX6_times cX6_times 4 (some .long), Cond.methodLink RL 97 yX5_makes, Cond.instanceMethod yX5_makes, Cond.selects RX5 yX5_makes yX5_makes, Cond.code yX5_makes cX5_makes 2 (some .int), Cond.methodLink RX5 178 yX5_isCrossSet, Cond.static yX5_isCrossSet, Cond.code yX5_isCrossSet cX5_isCrossSet 1 (some .boolean), Cond.methodLink RX5 181 yX1_becomeMade, Cond.instanceMethod yX1_becomeMade, Cond.selects RX1 yX1_becomeMade yX1_becomeMade, Cond.code yX1_becomeMade cX1_becomeMade 3 none, Cond.methodLink RX1 40 yX1_exchange]
def wsL_law_r26 : List Cond := [Cond.methodLink RX5 184 yJ6_bitCount_0f7a4, Cond.static yJ6_bitCount_0f7a4, Cond.initialized RJ6, Cond.code yJ6_bitCount_0f7a4 cJ6_bitCount_0f7a4 1 (some .int), Cond.constant RJ6 265 (1431655765), Cond.constant RJ6 266 (858993459), Cond.constant RJ6 267 (252645135), Cond.methodLink RL 100 yX6_makes, Cond.instanceMethod yX6_makes, Cond.selects RX6 yX6_makes yX6_makes, Cond.code yX6_makes cX6_makes 2 (some .int), Cond.methodLink RX6 186 yX6_areTight, Cond.instanceMethod yX6_areTight, Cond.selects RX6 yX6_areTight yX6_areTight, Cond.code yX6_areTight cX6_areTight 5 (some .boolean), Cond.methodLink RX6 183 yX6_isCross, Cond.static yX6_isCross, Cond.code yX6_isCross cX6_isCross 3 (some .boolean), Cond.methodLink RX6 176 yX6_isPlace, Cond.static yX6_isPlace, Cond.code yX6_isPlace cX6_isPlace 2 (some .boolean), Cond.methodLink RX6 180 yX6_bitOf, Cond.static yX6_bitOf, Cond.code yX6_bitOf cX6_bitOf 2 (some .int)]
def wsL_law_r27 : List Cond := [Cond.methodLink RL 101 yX5_dream, Cond.instanceMethod yX5_dream, Cond.selects RX5 yX5_dream yX5_dream, Cond.code yX5_dream cX5_dream 6 (some .int), Cond.methodLink RX5 189 yX5_isMadeBy, Cond.instanceMethod yX5_isMadeBy, Cond.selects RX5 yX5_isMadeBy yX5_isMadeBy, Cond.code yX5_isMadeBy cX5_isMadeBy 3 (some .boolean), Cond.methodLink RX5 230 yX1_isSame, Cond.instanceMethod yX1_isSame, Cond.selects RX1 yX1_isSame yX1_isSame, Cond.code yX1_isSame cX1_isSame 3 (some .boolean), Cond.methodLink RL 104 yX6_dream, Cond.instanceMethod yX6_dream, Cond.selects RX6 yX6_dream yX6_dream, Cond.code yX6_dream cX6_dream 6 (some .int), Cond.methodLink RL 105 yX5_ladder, Cond.instanceMethod yX5_ladder, Cond.selects RX5 yX5_ladder yX5_ladder, Cond.code yX5_ladder cX5_ladder 5 (some .int), Cond.methodLink RX5 193 yX0_clear, Cond.methodLink RX5 194 yX5_putLadder, Cond.instanceMethod yX5_putLadder, Cond.selects RX5 yX5_putLadder yX5_putLadder]
def wsL_law_r28 : List Cond := [Cond.code yX5_putLadder cX5_putLadder 7 none, Cond.methodLink RX5 241 yX5_isCrossAt, Cond.static yX5_isCrossAt, Cond.code yX5_isCrossAt cX5_isCrossAt 3 (some .boolean), Cond.methodLink RX5 233 yX5_bitOf, Cond.static yX5_bitOf, Cond.code yX5_bitOf cX5_bitOf 2 (some .int), Cond.fieldLink RX5 237 "SchubertDesk" "FIRST_BIT" "[I", Cond.methodLink RX5 245 yX0_put, Cond.methodLink RL 108 yX6_ladder, Cond.instanceMethod yX6_ladder, Cond.selects RX6 yX6_ladder yX6_ladder, Cond.code yX6_ladder cX6_ladder 5 (some .int), Cond.fieldLink RX6 189 "SchubertDeskModel" "found" "I", Cond.methodLink RX6 198 yX6_climbs, Cond.instanceMethod yX6_climbs, Cond.selects RX6 yX6_climbs yX6_climbs, Cond.code yX6_climbs cX6_climbs 5 none, Cond.methodLink RX6 192 yX6_areBoth, Cond.static yX6_areBoth, Cond.code yX6_areBoth cX6_areBoth 3 (some .boolean), Cond.methodLink RX6 195 yX6_finds, Cond.instanceMethod yX6_finds, Cond.selects RX6 yX6_finds yX6_finds]
def wsL_law_r29 : List Cond := [Cond.code yX6_finds cX6_finds 4 none, Cond.methodLink RX6 202 yX6_foundBy, Cond.instanceMethod yX6_foundBy, Cond.selects RX6 yX6_foundBy yX6_foundBy, Cond.code yX6_foundBy cX6_foundBy 2 (some .int), Cond.methodLink RL 109 yX5_rise, Cond.instanceMethod yX5_rise, Cond.selects RX5 yX5_rise yX5_rise, Cond.code yX5_rise cX5_rise 7 (some .int), Cond.constant RX5 197 (99999999), Cond.methodLink RX5 198 yX5_putExchanged, Cond.instanceMethod yX5_putExchanged, Cond.selects RX5 yX5_putExchanged yX5_putExchanged, Cond.code yX5_putExchanged cX5_putExchanged 5 none, Cond.methodLink RL 113 yX6_rise, Cond.instanceMethod yX6_rise, Cond.selects RX6 yX6_rise yX6_rise, Cond.code yX6_rise cX6_rise 7 (some .int), Cond.constant RX6 205 (99999999), Cond.methodLink RL 114 yX5_step, Cond.instanceMethod yX5_step, Cond.selects RX5 yX5_step yX5_step, Cond.code yX5_step cX5_step 7 (some .int), Cond.methodLink RX5 202 yX1_lastDescent]
def wsL_law_r30 : List Cond := [Cond.methodLink RX5 205 yX1_lastLessThan, Cond.instanceMethod yX1_lastLessThan, Cond.selects RX1 yX1_lastLessThan yX1_lastLessThan, Cond.code yX1_lastLessThan cX1_lastLessThan 4 (some .int), Cond.methodLink RL 117 yX6_step, Cond.instanceMethod yX6_step, Cond.selects RX6 yX6_step yX6_step, Cond.code yX6_step cX6_step 8 (some .int), Cond.methodLink RX6 206 yX6_lastDescent, Cond.static yX6_lastDescent, Cond.code yX6_lastDescent cX6_lastDescent 2 (some .int), Cond.methodLink RL 118 yX5_shape, Cond.instanceMethod yX5_shape, Cond.selects RX5 yX5_shape yX5_shape, Cond.code yX5_shape cX5_shape 5 (some .int), Cond.methodLink RL 121 yX6_shape, Cond.instanceMethod yX6_shape, Cond.selects RX6 yX6_shape yX6_shape, Cond.code yX6_shape cX6_shape 5 (some .int), Cond.methodLink RL 122 yX5_avoids, Cond.instanceMethod yX5_avoids, Cond.selects RX5 yX5_avoids yX5_avoids, Cond.code yX5_avoids cX5_avoids 4 (some .int), Cond.methodLink RX5 215 yX1_hasLeastGreatestMiddle]
def wsL_law_r31 : List Cond := [Cond.instanceMethod yX1_hasLeastGreatestMiddle, Cond.selects RX1 yX1_hasLeastGreatestMiddle yX1_hasLeastGreatestMiddle, Cond.code yX1_hasLeastGreatestMiddle cX1_hasLeastGreatestMiddle 3 (some .boolean), Cond.methodLink RX1 57 yX1_leastAhead, Cond.instanceMethod yX1_leastAhead, Cond.selects RX1 yX1_leastAhead yX1_leastAhead, Cond.code yX1_leastAhead cX1_leastAhead 4 (some .int), Cond.methodLink RX1 60 Lib.Math.min.name, Cond.methodLink RX5 218 yX1_hasTwoOneFourThree, Cond.instanceMethod yX1_hasTwoOneFourThree, Cond.selects RX1 yX1_hasTwoOneFourThree yX1_hasTwoOneFourThree, Cond.code yX1_hasTwoOneFourThree cX1_hasTwoOneFourThree 3 (some .boolean), Cond.methodLink RX1 65 yX1_hasFallAhead, Cond.instanceMethod yX1_hasFallAhead, Cond.selects RX1 yX1_hasFallAhead yX1_hasFallAhead, Cond.code yX1_hasFallAhead cX1_hasFallAhead 6 (some .boolean), Cond.methodLink RX1 69 Lib.Math.max.name, Cond.methodLink RL 125 yX6_avoids, Cond.instanceMethod yX6_avoids, Cond.selects RX6 yX6_avoids yX6_avoids, Cond.code yX6_avoids cX6_avoids 4 (some .int), Cond.methodLink RX6 209 yX6_hasThree, Cond.static yX6_hasThree, Cond.code yX6_hasThree cX6_hasThree 6 (some .boolean)]
def wsL_law_r32 : List Cond := [Cond.methodLink RX6 212 yX6_hasFour, Cond.static yX6_hasFour, Cond.code yX6_hasFour cX6_hasFour 7 (some .boolean)]
def wsL_law : List Cond := (wsL_law_r1 ++ (wsL_law_r2 ++ (wsL_law_r3 ++ (wsL_law_r4 ++ (wsL_law_r5 ++ (wsL_law_r6 ++ (wsL_law_r7 ++ (wsL_law_r8 ++ (wsL_law_r9 ++ (wsL_law_r10 ++ (wsL_law_r11 ++ (wsL_law_r12 ++ (wsL_law_r13 ++ (wsL_law_r14 ++ (wsL_law_r15 ++ (wsL_law_r16 ++ (wsL_law_r17 ++ (wsL_law_r18 ++ (wsL_law_r19 ++ (wsL_law_r20 ++ (wsL_law_r21 ++ (wsL_law_r22 ++ (wsL_law_r23 ++ (wsL_law_r24 ++ (wsL_law_r25 ++ (wsL_law_r26 ++ (wsL_law_r27 ++ (wsL_law_r28 ++ (wsL_law_r29 ++ (wsL_law_r30 ++ (wsL_law_r31 ++ wsL_law_r32))))))))))))))))))))))))))))))) ++ wsX50 ++ wsX60 ++ wsX10 ++ wsX00 ++ wsX20 ++ wsX40 ++ wsX30 ++ ([] : List Cond)
abbrev vwCl : List vw_C := [(RX0, TX0, 2), (RX1, TX1, 1), (RX2, TX2, 2), (RX3, TX3, 3), (RX4, TX4, 4), (RX5, TX5, 8), (RX6, TX6, 16)]
end
section
theorem dX0_init_0 : decode cX0_init 0 = .ok (.aload_n 0, 1) := by decide +kernel
theorem dX0_init_1 : decode cX0_init 1 = .ok (.invokespecial 3, 3) := by decide +kernel
theorem dX0_init_4 : decode cX0_init 4 = .ok (.aload_n 0, 1) := by decide +kernel
theorem dX0_init_5 : decode cX0_init 5 = .ok (.iconst 0, 1) := by decide +kernel
theorem dX0_init_6 : decode cX0_init 6 = .ok (.putfield 9, 3) := by decide +kernel
theorem dX0_init_9 : decode cX0_init 9 = .ok (.aload_n 0, 1) := by decide +kernel
theorem dX0_init_10 : decode cX0_init 10 = .ok (.iload_n 1, 1) := by decide +kernel
theorem dX0_init_11 : decode cX0_init 11 = .ok (.iconst 1, 1) := by decide +kernel
theorem dX0_init_12 : decode cX0_init 12 = .ok (.invokestatic 15, 3) := by decide +kernel
theorem dX0_init_15 : decode cX0_init 15 = .ok (.newarray .int, 2) := by decide +kernel
theorem dX0_init_17 : decode cX0_init 17 = .ok (.putfield 21, 3) := by decide +kernel
theorem dX0_init_20 : decode cX0_init 20 = .ok (.return_, 1) := by decide +kernel
theorem dX0_clear_0 : decode cX0_clear 0 = .ok (.aload_n 0, 1) := by decide +kernel
theorem dX0_clear_1 : decode cX0_clear 1 = .ok (.iconst 0, 1) := by decide +kernel
theorem dX0_clear_2 : decode cX0_clear 2 = .ok (.putfield 9, 3) := by decide +kernel
theorem dX0_clear_5 : decode cX0_clear 5 = .ok (.return_, 1) := by decide +kernel
theorem dX0_put_0 : decode cX0_put 0 = .ok (.iconst 0, 1) := by decide +kernel
theorem dX0_put_1 : decode cX0_put 1 = .ok (.istore_n 2, 1) := by decide +kernel
theorem dX0_put_2 : decode cX0_put 2 = .ok (.iload_n 2, 1) := by decide +kernel
theorem dX0_put_3 : decode cX0_put 3 = .ok (.aload_n 0, 1) := by decide +kernel
theorem dX0_put_4 : decode cX0_put 4 = .ok (.getfield 9, 3) := by decide +kernel
theorem dX0_put_7 : decode cX0_put 7 = .ok (.if_icmp .ge 28, 3) := by decide +kernel
theorem dX0_put_10 : decode cX0_put 10 = .ok (.iload_n 2, 1) := by decide +kernel
theorem dX0_put_11 : decode cX0_put 11 = .ok (.aload_n 0, 1) := by decide +kernel
theorem dX0_put_12 : decode cX0_put 12 = .ok (.getfield 21, 3) := by decide +kernel
theorem dX0_put_15 : decode cX0_put 15 = .ok (.arraylength, 1) := by decide +kernel
theorem dX0_put_16 : decode cX0_put 16 = .ok (.if_icmp .ge 19, 3) := by decide +kernel
theorem dX0_put_19 : decode cX0_put 19 = .ok (.aload_n 0, 1) := by decide +kernel
theorem dX0_put_20 : decode cX0_put 20 = .ok (.getfield 21, 3) := by decide +kernel
theorem dX0_put_23 : decode cX0_put 23 = .ok (.iload_n 2, 1) := by decide +kernel
theorem dX0_put_24 : decode cX0_put 24 = .ok (.iaload, 1) := by decide +kernel
theorem dX0_put_25 : decode cX0_put 25 = .ok (.iload_n 1, 1) := by decide +kernel
theorem dX0_put_26 : decode cX0_put 26 = .ok (.if_icmp .ge 9, 3) := by decide +kernel
theorem dX0_put_29 : decode cX0_put 29 = .ok (.iinc 2 1, 3) := by decide +kernel
theorem dX0_put_32 : decode cX0_put 32 = .ok (.goto (-30), 3) := by decide +kernel
theorem dX0_put_35 : decode cX0_put 35 = .ok (.iload_n 2, 1) := by decide +kernel
theorem dX0_put_36 : decode cX0_put 36 = .ok (.aload_n 0, 1) := by decide +kernel
theorem dX0_put_37 : decode cX0_put 37 = .ok (.getfield 9, 3) := by decide +kernel
theorem dX0_put_40 : decode cX0_put 40 = .ok (.if_icmp .ge 26, 3) := by decide +kernel
theorem dX0_put_43 : decode cX0_put 43 = .ok (.iload_n 2, 1) := by decide +kernel
theorem dX0_put_44 : decode cX0_put 44 = .ok (.aload_n 0, 1) := by decide +kernel
theorem dX0_put_45 : decode cX0_put 45 = .ok (.getfield 21, 3) := by decide +kernel
theorem dX0_put_48 : decode cX0_put 48 = .ok (.arraylength, 1) := by decide +kernel
theorem dX0_put_49 : decode cX0_put 49 = .ok (.if_icmp .ge 17, 3) := by decide +kernel
theorem dX0_put_52 : decode cX0_put 52 = .ok (.aload_n 0, 1) := by decide +kernel
theorem dX0_put_53 : decode cX0_put 53 = .ok (.getfield 21, 3) := by decide +kernel
theorem dX0_put_56 : decode cX0_put 56 = .ok (.iload_n 2, 1) := by decide +kernel
theorem dX0_put_57 : decode cX0_put 57 = .ok (.iaload, 1) := by decide +kernel
theorem dX0_put_58 : decode cX0_put 58 = .ok (.iload_n 1, 1) := by decide +kernel
theorem dX0_put_59 : decode cX0_put 59 = .ok (.if_icmp .ne 7, 3) := by decide +kernel
theorem dX0_put_62 : decode cX0_put 62 = .ok (.iconst 1, 1) := by decide +kernel
theorem dX0_put_63 : decode cX0_put 63 = .ok (.goto 4, 3) := by decide +kernel
theorem dX0_put_66 : decode cX0_put 66 = .ok (.iconst 0, 1) := by decide +kernel
theorem dX0_put_67 : decode cX0_put 67 = .ok (.istore_n 3, 1) := by decide +kernel
theorem dX0_put_68 : decode cX0_put 68 = .ok (.iload_n 3, 1) := by decide +kernel
theorem dX0_put_69 : decode cX0_put 69 = .ok (.ifCond .ne 15, 3) := by decide +kernel
theorem dX0_put_72 : decode cX0_put 72 = .ok (.aload_n 0, 1) := by decide +kernel
theorem dX0_put_73 : decode cX0_put 73 = .ok (.getfield 9, 3) := by decide +kernel
theorem dX0_put_76 : decode cX0_put 76 = .ok (.aload_n 0, 1) := by decide +kernel
theorem dX0_put_77 : decode cX0_put 77 = .ok (.getfield 21, 3) := by decide +kernel
theorem dX0_put_80 : decode cX0_put 80 = .ok (.arraylength, 1) := by decide +kernel
theorem dX0_put_81 : decode cX0_put 81 = .ok (.if_icmp .lt 4, 3) := by decide +kernel
theorem dX0_put_84 : decode cX0_put 84 = .ok (.return_, 1) := by decide +kernel
theorem dX0_put_85 : decode cX0_put 85 = .ok (.aload_n 0, 1) := by decide +kernel
theorem dX0_put_86 : decode cX0_put 86 = .ok (.getfield 21, 3) := by decide +kernel
theorem dX0_put_89 : decode cX0_put 89 = .ok (.iload_n 2, 1) := by decide +kernel
theorem dX0_put_90 : decode cX0_put 90 = .ok (.aload_n 0, 1) := by decide +kernel
theorem dX0_put_91 : decode cX0_put 91 = .ok (.getfield 21, 3) := by decide +kernel
theorem dX0_put_94 : decode cX0_put 94 = .ok (.iload_n 2, 1) := by decide +kernel
theorem dX0_put_95 : decode cX0_put 95 = .ok (.iconst 1, 1) := by decide +kernel
theorem dX0_put_96 : decode cX0_put 96 = .ok (.iadd, 1) := by decide +kernel
theorem dX0_put_97 : decode cX0_put 97 = .ok (.aload_n 0, 1) := by decide +kernel
theorem dX0_put_98 : decode cX0_put 98 = .ok (.getfield 9, 3) := by decide +kernel
theorem dX0_put_101 : decode cX0_put 101 = .ok (.iload_n 2, 1) := by decide +kernel
theorem dX0_put_102 : decode cX0_put 102 = .ok (.isub, 1) := by decide +kernel
theorem dX0_put_103 : decode cX0_put 103 = .ok (.invokestatic 25, 3) := by decide +kernel
theorem dX0_put_106 : decode cX0_put 106 = .ok (.aload_n 0, 1) := by decide +kernel
theorem dX0_put_107 : decode cX0_put 107 = .ok (.getfield 21, 3) := by decide +kernel
theorem dX0_put_110 : decode cX0_put 110 = .ok (.iload_n 2, 1) := by decide +kernel
theorem dX0_put_111 : decode cX0_put 111 = .ok (.iload_n 1, 1) := by decide +kernel
theorem dX0_put_112 : decode cX0_put 112 = .ok (.iastore, 1) := by decide +kernel
theorem dX0_put_113 : decode cX0_put 113 = .ok (.aload_n 0, 1) := by decide +kernel
theorem dX0_put_114 : decode cX0_put 114 = .ok (.dup, 1) := by decide +kernel
theorem dX0_put_115 : decode cX0_put 115 = .ok (.getfield 9, 3) := by decide +kernel
theorem dX0_put_118 : decode cX0_put 118 = .ok (.iconst 1, 1) := by decide +kernel
theorem dX0_put_119 : decode cX0_put 119 = .ok (.iadd, 1) := by decide +kernel
theorem dX0_put_120 : decode cX0_put 120 = .ok (.putfield 9, 3) := by decide +kernel
theorem dX0_put_123 : decode cX0_put 123 = .ok (.return_, 1) := by decide +kernel
theorem dX0_answer_0 : decode cX0_answer 0 = .ok (.iload_n 1, 1) := by decide +kernel
theorem dX0_answer_1 : decode cX0_answer 1 = .ok (.iconst (-1), 1) := by decide +kernel
theorem dX0_answer_2 : decode cX0_answer 2 = .ok (.if_icmp .ne 8, 3) := by decide +kernel
theorem dX0_answer_5 : decode cX0_answer 5 = .ok (.aload_n 0, 1) := by decide +kernel
theorem dX0_answer_6 : decode cX0_answer 6 = .ok (.getfield 9, 3) := by decide +kernel
theorem dX0_answer_9 : decode cX0_answer 9 = .ok (.ireturn, 1) := by decide +kernel
theorem dX0_answer_10 : decode cX0_answer 10 = .ok (.iload_n 1, 1) := by decide +kernel
theorem dX0_answer_11 : decode cX0_answer 11 = .ok (.ifCond .lt 29, 3) := by decide +kernel
theorem dX0_answer_14 : decode cX0_answer 14 = .ok (.iload_n 1, 1) := by decide +kernel
theorem dX0_answer_15 : decode cX0_answer 15 = .ok (.aload_n 0, 1) := by decide +kernel
theorem dX0_answer_16 : decode cX0_answer 16 = .ok (.getfield 9, 3) := by decide +kernel
theorem dX0_answer_19 : decode cX0_answer 19 = .ok (.if_icmp .ge 21, 3) := by decide +kernel
theorem dX0_answer_22 : decode cX0_answer 22 = .ok (.iload_n 1, 1) := by decide +kernel
theorem dX0_answer_23 : decode cX0_answer 23 = .ok (.aload_n 0, 1) := by decide +kernel
theorem dX0_answer_24 : decode cX0_answer 24 = .ok (.getfield 21, 3) := by decide +kernel
theorem dX0_answer_27 : decode cX0_answer 27 = .ok (.arraylength, 1) := by decide +kernel
theorem dX0_answer_28 : decode cX0_answer 28 = .ok (.if_icmp .ge 12, 3) := by decide +kernel
theorem dX0_answer_31 : decode cX0_answer 31 = .ok (.aload_n 0, 1) := by decide +kernel
theorem dX0_answer_32 : decode cX0_answer 32 = .ok (.getfield 21, 3) := by decide +kernel
theorem dX0_answer_35 : decode cX0_answer 35 = .ok (.iload_n 1, 1) := by decide +kernel
theorem dX0_answer_36 : decode cX0_answer 36 = .ok (.iaload, 1) := by decide +kernel
theorem dX0_answer_37 : decode cX0_answer 37 = .ok (.goto 5, 3) := by decide +kernel
theorem dX0_answer_40 : decode cX0_answer 40 = .ok (.bipush (-9), 2) := by decide +kernel
theorem dX0_answer_42 : decode cX0_answer 42 = .ok (.ireturn, 1) := by decide +kernel
theorem dX1_init_0 : decode cX1_init 0 = .ok (.aload_n 0, 1) := by decide +kernel
theorem dX1_init_1 : decode cX1_init 1 = .ok (.invokespecial 3, 3) := by decide +kernel
theorem dX1_init_4 : decode cX1_init 4 = .ok (.aload_n 0, 1) := by decide +kernel
theorem dX1_init_5 : decode cX1_init 5 = .ok (.bipush 10, 2) := by decide +kernel
theorem dX1_init_7 : decode cX1_init 7 = .ok (.newarray .int, 2) := by decide +kernel
theorem dX1_init_9 : decode cX1_init 9 = .ok (.putfield 9, 3) := by decide +kernel
theorem dX1_init_12 : decode cX1_init 12 = .ok (.return_, 1) := by decide +kernel
set_option maxRecDepth 20000 in
theorem ggX1_read_X1_stayInPlace : GoodIn wsX1_read wsX1_stayInPlace := goodIn_r _ [7, 2, 8] (by decide +kernel) (by decide +kernel)
set_option maxRecDepth 20000 in
theorem gX1_read_X1_stayInPlace : GoodIn wsX1_read (wsV RX1 16 RX1 yX1_stayInPlace wsX1_stayInPlace) := goodIn_app (goodIn_of _ (by decide +kernel)) ggX1_read_X1_stayInPlace
theorem dX1_read_0 : decode cX1_read 0 = .ok (.iload_n 1, 1) := by decide +kernel
theorem dX1_read_1 : decode cX1_read 1 = .ok (.iconst 1, 1) := by decide +kernel
theorem dX1_read_2 : decode cX1_read 2 = .ok (.if_icmp .lt 9, 3) := by decide +kernel
theorem dX1_read_5 : decode cX1_read 5 = .ok (.iload_n 1, 1) := by decide +kernel
theorem dX1_read_6 : decode cX1_read 6 = .ok (.ldc 15, 2) := by decide +kernel
theorem dX1_read_8 : decode cX1_read 8 = .ok (.if_icmp .le 5, 3) := by decide +kernel
theorem dX1_read_11 : decode cX1_read 11 = .ok (.iconst 0, 1) := by decide +kernel
theorem dX1_read_12 : decode cX1_read 12 = .ok (.ireturn, 1) := by decide +kernel
theorem dX1_read_13 : decode cX1_read 13 = .ok (.iconst 0, 1) := by decide +kernel
theorem dX1_read_14 : decode cX1_read 14 = .ok (.istore_n 2, 1) := by decide +kernel
theorem dX1_read_15 : decode cX1_read 15 = .ok (.iload_n 1, 1) := by decide +kernel
theorem dX1_read_16 : decode cX1_read 16 = .ok (.istore_n 3, 1) := by decide +kernel
theorem dX1_read_17 : decode cX1_read 17 = .ok (.iload_n 3, 1) := by decide +kernel
theorem dX1_read_18 : decode cX1_read 18 = .ok (.ifCond .le 20, 3) := by decide +kernel
theorem dX1_read_21 : decode cX1_read 21 = .ok (.iload_n 2, 1) := by decide +kernel
theorem dX1_read_22 : decode cX1_read 22 = .ok (.bipush 9, 2) := by decide +kernel
theorem dX1_read_24 : decode cX1_read 24 = .ok (.if_icmp .ge 14, 3) := by decide +kernel
theorem dX1_read_27 : decode cX1_read 27 = .ok (.iinc 2 1, 3) := by decide +kernel
theorem dX1_read_30 : decode cX1_read 30 = .ok (.iload_n 3, 1) := by decide +kernel
theorem dX1_read_31 : decode cX1_read 31 = .ok (.bipush 10, 2) := by decide +kernel
theorem dX1_read_33 : decode cX1_read 33 = .ok (.idiv, 1) := by decide +kernel
theorem dX1_read_34 : decode cX1_read 34 = .ok (.istore_n 3, 1) := by decide +kernel
theorem dX1_read_35 : decode cX1_read 35 = .ok (.goto (-18), 3) := by decide +kernel
theorem dX1_read_38 : decode cX1_read 38 = .ok (.aload_n 0, 1) := by decide +kernel
theorem dX1_read_39 : decode cX1_read 39 = .ok (.invokevirtual 16, 3) := by decide +kernel
theorem dX1_read_42 : decode cX1_read 42 = .ok (.iconst 0, 1) := by decide +kernel
theorem dX1_read_43 : decode cX1_read 43 = .ok (.istore_n 3, 1) := by decide +kernel
theorem dX1_read_44 : decode cX1_read 44 = .ok (.iload_n 1, 1) := by decide +kernel
theorem dX1_read_45 : decode cX1_read 45 = .ok (.istore 4, 2) := by decide +kernel
theorem dX1_read_47 : decode cX1_read 47 = .ok (.iload_n 2, 1) := by decide +kernel
theorem dX1_read_48 : decode cX1_read 48 = .ok (.istore 5, 2) := by decide +kernel
theorem dX1_read_50 : decode cX1_read 50 = .ok (.iload 5, 2) := by decide +kernel
theorem dX1_read_52 : decode cX1_read 52 = .ok (.iconst 1, 1) := by decide +kernel
theorem dX1_read_53 : decode cX1_read 53 = .ok (.if_icmp .lt 63, 3) := by decide +kernel
theorem dX1_read_56 : decode cX1_read 56 = .ok (.iload 4, 2) := by decide +kernel
theorem dX1_read_58 : decode cX1_read 58 = .ok (.bipush 10, 2) := by decide +kernel
theorem dX1_read_60 : decode cX1_read 60 = .ok (.irem, 1) := by decide +kernel
theorem dX1_read_61 : decode cX1_read 61 = .ok (.istore 6, 2) := by decide +kernel
theorem dX1_read_63 : decode cX1_read 63 = .ok (.iload 6, 2) := by decide +kernel
theorem dX1_read_65 : decode cX1_read 65 = .ok (.iconst 1, 1) := by decide +kernel
theorem dX1_read_66 : decode cX1_read 66 = .ok (.if_icmp .lt 19, 3) := by decide +kernel
theorem dX1_read_69 : decode cX1_read 69 = .ok (.iload 6, 2) := by decide +kernel
theorem dX1_read_71 : decode cX1_read 71 = .ok (.iload_n 2, 1) := by decide +kernel
theorem dX1_read_72 : decode cX1_read 72 = .ok (.if_icmp .gt 13, 3) := by decide +kernel
theorem dX1_read_75 : decode cX1_read 75 = .ok (.iload_n 3, 1) := by decide +kernel
theorem dX1_read_76 : decode cX1_read 76 = .ok (.iload 6, 2) := by decide +kernel
theorem dX1_read_78 : decode cX1_read 78 = .ok (.ishr, 1) := by decide +kernel
theorem dX1_read_79 : decode cX1_read 79 = .ok (.iconst 1, 1) := by decide +kernel
theorem dX1_read_80 : decode cX1_read 80 = .ok (.iand, 1) := by decide +kernel
theorem dX1_read_81 : decode cX1_read 81 = .ok (.iconst 1, 1) := by decide +kernel
theorem dX1_read_82 : decode cX1_read 82 = .ok (.if_icmp .ne 5, 3) := by decide +kernel
theorem dX1_read_85 : decode cX1_read 85 = .ok (.iconst 0, 1) := by decide +kernel
theorem dX1_read_86 : decode cX1_read 86 = .ok (.ireturn, 1) := by decide +kernel
theorem dX1_read_87 : decode cX1_read 87 = .ok (.iload_n 3, 1) := by decide +kernel
theorem dX1_read_88 : decode cX1_read 88 = .ok (.iconst 1, 1) := by decide +kernel
theorem dX1_read_89 : decode cX1_read 89 = .ok (.iload 6, 2) := by decide +kernel
theorem dX1_read_91 : decode cX1_read 91 = .ok (.ishl, 1) := by decide +kernel
theorem dX1_read_92 : decode cX1_read 92 = .ok (.ior, 1) := by decide +kernel
theorem dX1_read_93 : decode cX1_read 93 = .ok (.istore_n 3, 1) := by decide +kernel
theorem dX1_read_94 : decode cX1_read 94 = .ok (.aload_n 0, 1) := by decide +kernel
theorem dX1_read_95 : decode cX1_read 95 = .ok (.getfield 9, 3) := by decide +kernel
theorem dX1_read_98 : decode cX1_read 98 = .ok (.iload 5, 2) := by decide +kernel
theorem dX1_read_100 : decode cX1_read 100 = .ok (.iload 6, 2) := by decide +kernel
theorem dX1_read_102 : decode cX1_read 102 = .ok (.iastore, 1) := by decide +kernel
theorem dX1_read_103 : decode cX1_read 103 = .ok (.iload 4, 2) := by decide +kernel
theorem dX1_read_105 : decode cX1_read 105 = .ok (.bipush 10, 2) := by decide +kernel
theorem dX1_read_107 : decode cX1_read 107 = .ok (.idiv, 1) := by decide +kernel
theorem dX1_read_108 : decode cX1_read 108 = .ok (.istore 4, 2) := by decide +kernel
theorem dX1_read_110 : decode cX1_read 110 = .ok (.iinc 5 (-1), 3) := by decide +kernel
theorem dX1_read_113 : decode cX1_read 113 = .ok (.goto (-63), 3) := by decide +kernel
theorem dX1_read_116 : decode cX1_read 116 = .ok (.iconst 1, 1) := by decide +kernel
theorem dX1_read_117 : decode cX1_read 117 = .ok (.ireturn, 1) := by decide +kernel
theorem dX1_stayInPlace_0 : decode cX1_stayInPlace 0 = .ok (.iconst 1, 1) := by decide +kernel
theorem dX1_stayInPlace_1 : decode cX1_stayInPlace 1 = .ok (.istore_n 1, 1) := by decide +kernel
theorem dX1_stayInPlace_2 : decode cX1_stayInPlace 2 = .ok (.iload_n 1, 1) := by decide +kernel
theorem dX1_stayInPlace_3 : decode cX1_stayInPlace 3 = .ok (.bipush 9, 2) := by decide +kernel
theorem dX1_stayInPlace_5 : decode cX1_stayInPlace 5 = .ok (.if_icmp .gt 16, 3) := by decide +kernel
theorem dX1_stayInPlace_8 : decode cX1_stayInPlace 8 = .ok (.aload_n 0, 1) := by decide +kernel
theorem dX1_stayInPlace_9 : decode cX1_stayInPlace 9 = .ok (.getfield 9, 3) := by decide +kernel
theorem dX1_stayInPlace_12 : decode cX1_stayInPlace 12 = .ok (.iload_n 1, 1) := by decide +kernel
theorem dX1_stayInPlace_13 : decode cX1_stayInPlace 13 = .ok (.iload_n 1, 1) := by decide +kernel
theorem dX1_stayInPlace_14 : decode cX1_stayInPlace 14 = .ok (.iastore, 1) := by decide +kernel
theorem dX1_stayInPlace_15 : decode cX1_stayInPlace 15 = .ok (.iinc 1 1, 3) := by decide +kernel
theorem dX1_stayInPlace_18 : decode cX1_stayInPlace 18 = .ok (.goto (-16), 3) := by decide +kernel
theorem dX1_stayInPlace_21 : decode cX1_stayInPlace 21 = .ok (.return_, 1) := by decide +kernel
theorem dX1_digit_0 : decode cX1_digit 0 = .ok (.iload_n 1, 1) := by decide +kernel
theorem dX1_digit_1 : decode cX1_digit 1 = .ok (.iconst 1, 1) := by decide +kernel
theorem dX1_digit_2 : decode cX1_digit 2 = .ok (.if_icmp .lt 18, 3) := by decide +kernel
theorem dX1_digit_5 : decode cX1_digit 5 = .ok (.iload_n 1, 1) := by decide +kernel
theorem dX1_digit_6 : decode cX1_digit 6 = .ok (.bipush 9, 2) := by decide +kernel
theorem dX1_digit_8 : decode cX1_digit 8 = .ok (.if_icmp .gt 12, 3) := by decide +kernel
theorem dX1_digit_11 : decode cX1_digit 11 = .ok (.aload_n 0, 1) := by decide +kernel
theorem dX1_digit_12 : decode cX1_digit 12 = .ok (.getfield 9, 3) := by decide +kernel
theorem dX1_digit_15 : decode cX1_digit 15 = .ok (.iload_n 1, 1) := by decide +kernel
theorem dX1_digit_16 : decode cX1_digit 16 = .ok (.iaload, 1) := by decide +kernel
theorem dX1_digit_17 : decode cX1_digit 17 = .ok (.goto 4, 3) := by decide +kernel
theorem dX1_digit_20 : decode cX1_digit 20 = .ok (.iload_n 1, 1) := by decide +kernel
theorem dX1_digit_21 : decode cX1_digit 21 = .ok (.ireturn, 1) := by decide +kernel
theorem dX1_put_0 : decode cX1_put 0 = .ok (.iload_n 1, 1) := by decide +kernel
theorem dX1_put_1 : decode cX1_put 1 = .ok (.iconst 1, 1) := by decide +kernel
theorem dX1_put_2 : decode cX1_put 2 = .ok (.if_icmp .lt 16, 3) := by decide +kernel
theorem dX1_put_5 : decode cX1_put 5 = .ok (.iload_n 1, 1) := by decide +kernel
theorem dX1_put_6 : decode cX1_put 6 = .ok (.bipush 9, 2) := by decide +kernel
theorem dX1_put_8 : decode cX1_put 8 = .ok (.if_icmp .gt 10, 3) := by decide +kernel
theorem dX1_put_11 : decode cX1_put 11 = .ok (.aload_n 0, 1) := by decide +kernel
theorem dX1_put_12 : decode cX1_put 12 = .ok (.getfield 9, 3) := by decide +kernel
theorem dX1_put_15 : decode cX1_put 15 = .ok (.iload_n 1, 1) := by decide +kernel
theorem dX1_put_16 : decode cX1_put 16 = .ok (.iload_n 2, 1) := by decide +kernel
theorem dX1_put_17 : decode cX1_put 17 = .ok (.iastore, 1) := by decide +kernel
theorem dX1_put_18 : decode cX1_put 18 = .ok (.return_, 1) := by decide +kernel
set_option maxRecDepth 20000 in
theorem ggX1_exchange_X1_digit : GoodIn wsX1_exchange wsX1_digit := goodIn_r _ [5, 6, 11] (by decide +kernel) (by decide +kernel)
set_option maxRecDepth 20000 in
theorem gX1_exchange_X1_digit : GoodIn wsX1_exchange (wsV RX1 19 RX1 yX1_digit wsX1_digit) := goodIn_app (goodIn_of _ (by decide +kernel)) ggX1_exchange_X1_digit
set_option maxRecDepth 20000 in
theorem ggX1_exchange_X1_put : GoodIn wsX1_exchange wsX1_put := goodIn_r _ [10, 6, 11] (by decide +kernel) (by decide +kernel)
set_option maxRecDepth 20000 in
theorem gX1_exchange_X1_put : GoodIn wsX1_exchange (wsV RX1 23 RX1 yX1_put wsX1_put) := goodIn_app (goodIn_of _ (by decide +kernel)) ggX1_exchange_X1_put
theorem dX1_exchange_0 : decode cX1_exchange 0 = .ok (.aload_n 0, 1) := by decide +kernel
theorem dX1_exchange_1 : decode cX1_exchange 1 = .ok (.iload_n 1, 1) := by decide +kernel
theorem dX1_exchange_2 : decode cX1_exchange 2 = .ok (.invokevirtual 19, 3) := by decide +kernel
theorem dX1_exchange_5 : decode cX1_exchange 5 = .ok (.istore_n 3, 1) := by decide +kernel
theorem dX1_exchange_6 : decode cX1_exchange 6 = .ok (.aload_n 0, 1) := by decide +kernel
theorem dX1_exchange_7 : decode cX1_exchange 7 = .ok (.iload_n 1, 1) := by decide +kernel
theorem dX1_exchange_8 : decode cX1_exchange 8 = .ok (.aload_n 0, 1) := by decide +kernel
theorem dX1_exchange_9 : decode cX1_exchange 9 = .ok (.iload_n 2, 1) := by decide +kernel
theorem dX1_exchange_10 : decode cX1_exchange 10 = .ok (.invokevirtual 19, 3) := by decide +kernel
theorem dX1_exchange_13 : decode cX1_exchange 13 = .ok (.invokevirtual 23, 3) := by decide +kernel
theorem dX1_exchange_16 : decode cX1_exchange 16 = .ok (.aload_n 0, 1) := by decide +kernel
theorem dX1_exchange_17 : decode cX1_exchange 17 = .ok (.iload_n 2, 1) := by decide +kernel
theorem dX1_exchange_18 : decode cX1_exchange 18 = .ok (.iload_n 3, 1) := by decide +kernel
theorem dX1_exchange_19 : decode cX1_exchange 19 = .ok (.invokevirtual 23, 3) := by decide +kernel
theorem dX1_exchange_22 : decode cX1_exchange 22 = .ok (.return_, 1) := by decide +kernel
theorem dX1_isSame_0 : decode cX1_isSame 0 = .ok (.iconst 1, 1) := by decide +kernel
theorem dX1_isSame_1 : decode cX1_isSame 1 = .ok (.istore_n 2, 1) := by decide +kernel
theorem dX1_isSame_2 : decode cX1_isSame 2 = .ok (.iload_n 2, 1) := by decide +kernel
theorem dX1_isSame_3 : decode cX1_isSame 3 = .ok (.bipush 9, 2) := by decide +kernel
theorem dX1_isSame_5 : decode cX1_isSame 5 = .ok (.if_icmp .gt 26, 3) := by decide +kernel
theorem dX1_isSame_8 : decode cX1_isSame 8 = .ok (.aload_n 0, 1) := by decide +kernel
theorem dX1_isSame_9 : decode cX1_isSame 9 = .ok (.getfield 9, 3) := by decide +kernel
theorem dX1_isSame_12 : decode cX1_isSame 12 = .ok (.iload_n 2, 1) := by decide +kernel
theorem dX1_isSame_13 : decode cX1_isSame 13 = .ok (.iaload, 1) := by decide +kernel
theorem dX1_isSame_14 : decode cX1_isSame 14 = .ok (.aload_n 1, 1) := by decide +kernel
theorem dX1_isSame_15 : decode cX1_isSame 15 = .ok (.getfield 9, 3) := by decide +kernel
theorem dX1_isSame_18 : decode cX1_isSame 18 = .ok (.iload_n 2, 1) := by decide +kernel
theorem dX1_isSame_19 : decode cX1_isSame 19 = .ok (.iaload, 1) := by decide +kernel
theorem dX1_isSame_20 : decode cX1_isSame 20 = .ok (.if_icmp .eq 5, 3) := by decide +kernel
theorem dX1_isSame_23 : decode cX1_isSame 23 = .ok (.iconst 0, 1) := by decide +kernel
theorem dX1_isSame_24 : decode cX1_isSame 24 = .ok (.ireturn, 1) := by decide +kernel
theorem dX1_isSame_25 : decode cX1_isSame 25 = .ok (.iinc 2 1, 3) := by decide +kernel
theorem dX1_isSame_28 : decode cX1_isSame 28 = .ok (.goto (-26), 3) := by decide +kernel
theorem dX1_isSame_31 : decode cX1_isSame 31 = .ok (.iconst 1, 1) := by decide +kernel
theorem dX1_isSame_32 : decode cX1_isSame 32 = .ok (.ireturn, 1) := by decide +kernel
set_option maxRecDepth 20000 in
theorem ggX1_becomeInverse_X1_digit : GoodIn wsX1_becomeInverse wsX1_digit := goodIn_r _ [5, 6, 11] (by decide +kernel) (by decide +kernel)
set_option maxRecDepth 20000 in
theorem gX1_becomeInverse_X1_digit : GoodIn wsX1_becomeInverse (wsV RX1 19 RX1 yX1_digit wsX1_digit) := goodIn_app (goodIn_of _ (by decide +kernel)) ggX1_becomeInverse_X1_digit
set_option maxRecDepth 20000 in
theorem ggX1_becomeInverse_X1_put : GoodIn wsX1_becomeInverse wsX1_put := goodIn_r _ [10, 6, 11] (by decide +kernel) (by decide +kernel)
set_option maxRecDepth 20000 in
theorem gX1_becomeInverse_X1_put : GoodIn wsX1_becomeInverse (wsV RX1 23 RX1 yX1_put wsX1_put) := goodIn_app (goodIn_of _ (by decide +kernel)) ggX1_becomeInverse_X1_put
theorem dX1_becomeInverse_0 : decode cX1_becomeInverse 0 = .ok (.iconst 1, 1) := by decide +kernel
theorem dX1_becomeInverse_1 : decode cX1_becomeInverse 1 = .ok (.istore_n 2, 1) := by decide +kernel
theorem dX1_becomeInverse_2 : decode cX1_becomeInverse 2 = .ok (.iload_n 2, 1) := by decide +kernel
theorem dX1_becomeInverse_3 : decode cX1_becomeInverse 3 = .ok (.bipush 9, 2) := by decide +kernel
theorem dX1_becomeInverse_5 : decode cX1_becomeInverse 5 = .ok (.if_icmp .gt 19, 3) := by decide +kernel
theorem dX1_becomeInverse_8 : decode cX1_becomeInverse 8 = .ok (.aload_n 0, 1) := by decide +kernel
theorem dX1_becomeInverse_9 : decode cX1_becomeInverse 9 = .ok (.aload_n 1, 1) := by decide +kernel
theorem dX1_becomeInverse_10 : decode cX1_becomeInverse 10 = .ok (.iload_n 2, 1) := by decide +kernel
theorem dX1_becomeInverse_11 : decode cX1_becomeInverse 11 = .ok (.invokevirtual 19, 3) := by decide +kernel
theorem dX1_becomeInverse_14 : decode cX1_becomeInverse 14 = .ok (.iload_n 2, 1) := by decide +kernel
theorem dX1_becomeInverse_15 : decode cX1_becomeInverse 15 = .ok (.invokevirtual 23, 3) := by decide +kernel
theorem dX1_becomeInverse_18 : decode cX1_becomeInverse 18 = .ok (.iinc 2 1, 3) := by decide +kernel
theorem dX1_becomeInverse_21 : decode cX1_becomeInverse 21 = .ok (.goto (-19), 3) := by decide +kernel
theorem dX1_becomeInverse_24 : decode cX1_becomeInverse 24 = .ok (.return_, 1) := by decide +kernel
set_option maxRecDepth 20000 in
theorem ggX1_becomeProduct_X1_digit : GoodIn wsX1_becomeProduct wsX1_digit := goodIn_r _ [6, 1, 7] (by decide +kernel) (by decide +kernel)
set_option maxRecDepth 20000 in
theorem gX1_becomeProduct_X1_digit : GoodIn wsX1_becomeProduct (wsV RX1 19 RX1 yX1_digit wsX1_digit) := goodIn_app (goodIn_of _ (by decide +kernel)) ggX1_becomeProduct_X1_digit
theorem dX1_becomeProduct_0 : decode cX1_becomeProduct 0 = .ok (.iconst 1, 1) := by decide +kernel
theorem dX1_becomeProduct_1 : decode cX1_becomeProduct 1 = .ok (.istore_n 3, 1) := by decide +kernel
theorem dX1_becomeProduct_2 : decode cX1_becomeProduct 2 = .ok (.iload_n 3, 1) := by decide +kernel
theorem dX1_becomeProduct_3 : decode cX1_becomeProduct 3 = .ok (.bipush 9, 2) := by decide +kernel
theorem dX1_becomeProduct_5 : decode cX1_becomeProduct 5 = .ok (.if_icmp .gt 24, 3) := by decide +kernel
theorem dX1_becomeProduct_8 : decode cX1_becomeProduct 8 = .ok (.aload_n 0, 1) := by decide +kernel
theorem dX1_becomeProduct_9 : decode cX1_becomeProduct 9 = .ok (.getfield 9, 3) := by decide +kernel
theorem dX1_becomeProduct_12 : decode cX1_becomeProduct 12 = .ok (.iload_n 3, 1) := by decide +kernel
theorem dX1_becomeProduct_13 : decode cX1_becomeProduct 13 = .ok (.aload_n 1, 1) := by decide +kernel
theorem dX1_becomeProduct_14 : decode cX1_becomeProduct 14 = .ok (.aload_n 2, 1) := by decide +kernel
theorem dX1_becomeProduct_15 : decode cX1_becomeProduct 15 = .ok (.iload_n 3, 1) := by decide +kernel
theorem dX1_becomeProduct_16 : decode cX1_becomeProduct 16 = .ok (.invokevirtual 19, 3) := by decide +kernel
theorem dX1_becomeProduct_19 : decode cX1_becomeProduct 19 = .ok (.invokevirtual 19, 3) := by decide +kernel
theorem dX1_becomeProduct_22 : decode cX1_becomeProduct 22 = .ok (.iastore, 1) := by decide +kernel
theorem dX1_becomeProduct_23 : decode cX1_becomeProduct 23 = .ok (.iinc 3 1, 3) := by decide +kernel
theorem dX1_becomeProduct_26 : decode cX1_becomeProduct 26 = .ok (.goto (-24), 3) := by decide +kernel
theorem dX1_becomeProduct_29 : decode cX1_becomeProduct 29 = .ok (.return_, 1) := by decide +kernel
set_option maxRecDepth 20000 in
theorem ggX1_becomeOfCode_X5_exponentAt : GoodIn wsX1_becomeOfCode wsX5_exponentAt := goodIn_r _ [4] (by decide +kernel) (by decide +kernel)
set_option maxRecDepth 20000 in
theorem gX1_becomeOfCode_X5_exponentAt_n27 : GoodIn wsX1_becomeOfCode (wsX5_exponentAt) := ggX1_becomeOfCode_X5_exponentAt
set_option maxRecDepth 20000 in
theorem ggX1_becomeOfCode_X1_unusedAbove : GoodIn wsX1_becomeOfCode wsX1_unusedAbove := goodIn_r _ [8] (by decide +kernel) (by decide +kernel)
set_option maxRecDepth 20000 in
theorem gX1_becomeOfCode_X1_unusedAbove : GoodIn wsX1_becomeOfCode (va_wsS RX1 31 yX1_unusedAbove wsX1_unusedAbove) := goodIn_app (goodIn_of _ (by decide +kernel)) ggX1_becomeOfCode_X1_unusedAbove
theorem dX1_becomeOfCode_0 : decode cX1_becomeOfCode 0 = .ok (.iconst 0, 1) := by decide +kernel
theorem dX1_becomeOfCode_1 : decode cX1_becomeOfCode 1 = .ok (.istore_n 2, 1) := by decide +kernel
theorem dX1_becomeOfCode_2 : decode cX1_becomeOfCode 2 = .ok (.iconst 1, 1) := by decide +kernel
theorem dX1_becomeOfCode_3 : decode cX1_becomeOfCode 3 = .ok (.istore_n 3, 1) := by decide +kernel
theorem dX1_becomeOfCode_4 : decode cX1_becomeOfCode 4 = .ok (.iload_n 3, 1) := by decide +kernel
theorem dX1_becomeOfCode_5 : decode cX1_becomeOfCode 5 = .ok (.bipush 9, 2) := by decide +kernel
theorem dX1_becomeOfCode_7 : decode cX1_becomeOfCode 7 = .ok (.if_icmp .gt 35, 3) := by decide +kernel
theorem dX1_becomeOfCode_10 : decode cX1_becomeOfCode 10 = .ok (.iload_n 2, 1) := by decide +kernel
theorem dX1_becomeOfCode_11 : decode cX1_becomeOfCode 11 = .ok (.iload_n 1, 1) := by decide +kernel
theorem dX1_becomeOfCode_12 : decode cX1_becomeOfCode 12 = .ok (.iload_n 3, 1) := by decide +kernel
theorem dX1_becomeOfCode_13 : decode cX1_becomeOfCode 13 = .ok (.invokestatic 27, 3) := by decide +kernel
theorem dX1_becomeOfCode_16 : decode cX1_becomeOfCode 16 = .ok (.invokestatic 31, 3) := by decide +kernel
theorem dX1_becomeOfCode_19 : decode cX1_becomeOfCode 19 = .ok (.istore 4, 2) := by decide +kernel
theorem dX1_becomeOfCode_21 : decode cX1_becomeOfCode 21 = .ok (.iload_n 2, 1) := by decide +kernel
theorem dX1_becomeOfCode_22 : decode cX1_becomeOfCode 22 = .ok (.iconst 1, 1) := by decide +kernel
theorem dX1_becomeOfCode_23 : decode cX1_becomeOfCode 23 = .ok (.iload 4, 2) := by decide +kernel
theorem dX1_becomeOfCode_25 : decode cX1_becomeOfCode 25 = .ok (.ishl, 1) := by decide +kernel
theorem dX1_becomeOfCode_26 : decode cX1_becomeOfCode 26 = .ok (.ior, 1) := by decide +kernel
theorem dX1_becomeOfCode_27 : decode cX1_becomeOfCode 27 = .ok (.istore_n 2, 1) := by decide +kernel
theorem dX1_becomeOfCode_28 : decode cX1_becomeOfCode 28 = .ok (.aload_n 0, 1) := by decide +kernel
theorem dX1_becomeOfCode_29 : decode cX1_becomeOfCode 29 = .ok (.getfield 9, 3) := by decide +kernel
theorem dX1_becomeOfCode_32 : decode cX1_becomeOfCode 32 = .ok (.iload_n 3, 1) := by decide +kernel
theorem dX1_becomeOfCode_33 : decode cX1_becomeOfCode 33 = .ok (.iload 4, 2) := by decide +kernel
theorem dX1_becomeOfCode_35 : decode cX1_becomeOfCode 35 = .ok (.iastore, 1) := by decide +kernel
theorem dX1_becomeOfCode_36 : decode cX1_becomeOfCode 36 = .ok (.iinc 3 1, 3) := by decide +kernel
theorem dX1_becomeOfCode_39 : decode cX1_becomeOfCode 39 = .ok (.goto (-35), 3) := by decide +kernel
theorem dX1_becomeOfCode_42 : decode cX1_becomeOfCode 42 = .ok (.return_, 1) := by decide +kernel
theorem dX1_unusedAbove_0 : decode cX1_unusedAbove 0 = .ok (.iload_n 1, 1) := by decide +kernel
theorem dX1_unusedAbove_1 : decode cX1_unusedAbove 1 = .ok (.istore_n 2, 1) := by decide +kernel
theorem dX1_unusedAbove_2 : decode cX1_unusedAbove 2 = .ok (.iconst 1, 1) := by decide +kernel
theorem dX1_unusedAbove_3 : decode cX1_unusedAbove 3 = .ok (.istore_n 3, 1) := by decide +kernel
theorem dX1_unusedAbove_4 : decode cX1_unusedAbove 4 = .ok (.iload_n 3, 1) := by decide +kernel
theorem dX1_unusedAbove_5 : decode cX1_unusedAbove 5 = .ok (.bipush 9, 2) := by decide +kernel
theorem dX1_unusedAbove_7 : decode cX1_unusedAbove 7 = .ok (.if_icmp .ge 26, 3) := by decide +kernel
theorem dX1_unusedAbove_10 : decode cX1_unusedAbove 10 = .ok (.iload_n 0, 1) := by decide +kernel
theorem dX1_unusedAbove_11 : decode cX1_unusedAbove 11 = .ok (.iload_n 3, 1) := by decide +kernel
theorem dX1_unusedAbove_12 : decode cX1_unusedAbove 12 = .ok (.ishr, 1) := by decide +kernel
theorem dX1_unusedAbove_13 : decode cX1_unusedAbove 13 = .ok (.iconst 1, 1) := by decide +kernel
theorem dX1_unusedAbove_14 : decode cX1_unusedAbove 14 = .ok (.iand, 1) := by decide +kernel
theorem dX1_unusedAbove_15 : decode cX1_unusedAbove 15 = .ok (.ifCond .ne 12, 3) := by decide +kernel
theorem dX1_unusedAbove_18 : decode cX1_unusedAbove 18 = .ok (.iload_n 2, 1) := by decide +kernel
theorem dX1_unusedAbove_19 : decode cX1_unusedAbove 19 = .ok (.ifCond .ne 5, 3) := by decide +kernel
theorem dX1_unusedAbove_22 : decode cX1_unusedAbove 22 = .ok (.iload_n 3, 1) := by decide +kernel
theorem dX1_unusedAbove_23 : decode cX1_unusedAbove 23 = .ok (.ireturn, 1) := by decide +kernel
theorem dX1_unusedAbove_24 : decode cX1_unusedAbove 24 = .ok (.iinc 2 (-1), 3) := by decide +kernel
theorem dX1_unusedAbove_27 : decode cX1_unusedAbove 27 = .ok (.iinc 3 1, 3) := by decide +kernel
theorem dX1_unusedAbove_30 : decode cX1_unusedAbove 30 = .ok (.goto (-26), 3) := by decide +kernel
theorem dX1_unusedAbove_33 : decode cX1_unusedAbove 33 = .ok (.bipush 9, 2) := by decide +kernel
theorem dX1_unusedAbove_35 : decode cX1_unusedAbove 35 = .ok (.ireturn, 1) := by decide +kernel
set_option maxRecDepth 20000 in
theorem ggX1_becomeMade_X1_stayInPlace : GoodIn wsX1_becomeMade wsX1_stayInPlace := goodIn_r _ [5, 6, 19] (by decide +kernel) (by decide +kernel)
set_option maxRecDepth 20000 in
theorem gX1_becomeMade_X1_stayInPlace : GoodIn wsX1_becomeMade (wsV RX1 16 RX1 yX1_stayInPlace wsX1_stayInPlace) := goodIn_app (goodIn_of _ (by decide +kernel)) ggX1_becomeMade_X1_stayInPlace
set_option maxRecDepth 20000 in
theorem ggX1_becomeMade_X1_exchange : GoodIn wsX1_becomeMade wsX1_exchange := goodIn_r _ [10, 11, 12, 13, 4, 14, 6, 15, 16, 17, 18, 19] (by decide +kernel) (by decide +kernel)
set_option maxRecDepth 20000 in
theorem gX1_becomeMade_X1_exchange : GoodIn wsX1_becomeMade (wsV RX1 40 RX1 yX1_exchange wsX1_exchange) := goodIn_app (goodIn_of _ (by decide +kernel)) ggX1_becomeMade_X1_exchange
theorem dX1_becomeMade_0 : decode cX1_becomeMade 0 = .ok (.aload_n 0, 1) := by decide +kernel
theorem dX1_becomeMade_1 : decode cX1_becomeMade 1 = .ok (.invokevirtual 16, 3) := by decide +kernel
theorem dX1_becomeMade_4 : decode cX1_becomeMade 4 = .ok (.iconst 0, 1) := by decide +kernel
theorem dX1_becomeMade_5 : decode cX1_becomeMade 5 = .ok (.istore_n 2, 1) := by decide +kernel
theorem dX1_becomeMade_6 : decode cX1_becomeMade 6 = .ok (.iload_n 2, 1) := by decide +kernel
theorem dX1_becomeMade_7 : decode cX1_becomeMade 7 = .ok (.bipush 10, 2) := by decide +kernel
theorem dX1_becomeMade_9 : decode cX1_becomeMade 9 = .ok (.if_icmp .ge 38, 3) := by decide +kernel
theorem dX1_becomeMade_12 : decode cX1_becomeMade 12 = .ok (.iload_n 1, 1) := by decide +kernel
theorem dX1_becomeMade_13 : decode cX1_becomeMade 13 = .ok (.getstatic 34, 3) := by decide +kernel
theorem dX1_becomeMade_16 : decode cX1_becomeMade 16 = .ok (.iload_n 2, 1) := by decide +kernel
theorem dX1_becomeMade_17 : decode cX1_becomeMade 17 = .ok (.iaload, 1) := by decide +kernel
theorem dX1_becomeMade_18 : decode cX1_becomeMade 18 = .ok (.ishr, 1) := by decide +kernel
theorem dX1_becomeMade_19 : decode cX1_becomeMade 19 = .ok (.iconst 1, 1) := by decide +kernel
theorem dX1_becomeMade_20 : decode cX1_becomeMade 20 = .ok (.iand, 1) := by decide +kernel
theorem dX1_becomeMade_21 : decode cX1_becomeMade 21 = .ok (.iconst 1, 1) := by decide +kernel
theorem dX1_becomeMade_22 : decode cX1_becomeMade 22 = .ok (.if_icmp .ne 19, 3) := by decide +kernel
theorem dX1_becomeMade_25 : decode cX1_becomeMade 25 = .ok (.aload_n 0, 1) := by decide +kernel
theorem dX1_becomeMade_26 : decode cX1_becomeMade 26 = .ok (.getstatic 37, 3) := by decide +kernel
theorem dX1_becomeMade_29 : decode cX1_becomeMade 29 = .ok (.iload_n 2, 1) := by decide +kernel
theorem dX1_becomeMade_30 : decode cX1_becomeMade 30 = .ok (.iaload, 1) := by decide +kernel
theorem dX1_becomeMade_31 : decode cX1_becomeMade 31 = .ok (.getstatic 37, 3) := by decide +kernel
theorem dX1_becomeMade_34 : decode cX1_becomeMade 34 = .ok (.iload_n 2, 1) := by decide +kernel
theorem dX1_becomeMade_35 : decode cX1_becomeMade 35 = .ok (.iaload, 1) := by decide +kernel
theorem dX1_becomeMade_36 : decode cX1_becomeMade 36 = .ok (.iconst 1, 1) := by decide +kernel
theorem dX1_becomeMade_37 : decode cX1_becomeMade 37 = .ok (.iadd, 1) := by decide +kernel
theorem dX1_becomeMade_38 : decode cX1_becomeMade 38 = .ok (.invokevirtual 40, 3) := by decide +kernel
theorem dX1_becomeMade_41 : decode cX1_becomeMade 41 = .ok (.iinc 2 1, 3) := by decide +kernel
theorem dX1_becomeMade_44 : decode cX1_becomeMade 44 = .ok (.goto (-38), 3) := by decide +kernel
theorem dX1_becomeMade_47 : decode cX1_becomeMade 47 = .ok (.return_, 1) := by decide +kernel
theorem dX1_plainCount_0 : decode cX1_plainCount 0 = .ok (.bipush 9, 2) := by decide +kernel
theorem dX1_plainCount_2 : decode cX1_plainCount 2 = .ok (.istore_n 1, 1) := by decide +kernel
theorem dX1_plainCount_3 : decode cX1_plainCount 3 = .ok (.iload_n 1, 1) := by decide +kernel
theorem dX1_plainCount_4 : decode cX1_plainCount 4 = .ok (.iconst 1, 1) := by decide +kernel
theorem dX1_plainCount_5 : decode cX1_plainCount 5 = .ok (.if_icmp .le 19, 3) := by decide +kernel
theorem dX1_plainCount_8 : decode cX1_plainCount 8 = .ok (.aload_n 0, 1) := by decide +kernel
theorem dX1_plainCount_9 : decode cX1_plainCount 9 = .ok (.getfield 9, 3) := by decide +kernel
theorem dX1_plainCount_12 : decode cX1_plainCount 12 = .ok (.iload_n 1, 1) := by decide +kernel
theorem dX1_plainCount_13 : decode cX1_plainCount 13 = .ok (.iaload, 1) := by decide +kernel
theorem dX1_plainCount_14 : decode cX1_plainCount 14 = .ok (.iload_n 1, 1) := by decide +kernel
theorem dX1_plainCount_15 : decode cX1_plainCount 15 = .ok (.if_icmp .ne 9, 3) := by decide +kernel
theorem dX1_plainCount_18 : decode cX1_plainCount 18 = .ok (.iinc 1 (-1), 3) := by decide +kernel
theorem dX1_plainCount_21 : decode cX1_plainCount 21 = .ok (.goto (-18), 3) := by decide +kernel
theorem dX1_plainCount_24 : decode cX1_plainCount 24 = .ok (.iload_n 1, 1) := by decide +kernel
theorem dX1_plainCount_25 : decode cX1_plainCount 25 = .ok (.ireturn, 1) := by decide +kernel
set_option maxRecDepth 20000 in
theorem ggX1_plainNumber_X1_plainCount : GoodIn wsX1_plainNumber wsX1_plainCount := goodIn_r _ [6, 1, 7] (by decide +kernel) (by decide +kernel)
set_option maxRecDepth 20000 in
theorem gX1_plainNumber_X1_plainCount : GoodIn wsX1_plainNumber (wsV RX1 43 RX1 yX1_plainCount wsX1_plainCount) := goodIn_app (goodIn_of _ (by decide +kernel)) ggX1_plainNumber_X1_plainCount
theorem dX1_plainNumber_0 : decode cX1_plainNumber 0 = .ok (.aload_n 0, 1) := by decide +kernel
theorem dX1_plainNumber_1 : decode cX1_plainNumber 1 = .ok (.invokevirtual 43, 3) := by decide +kernel
theorem dX1_plainNumber_4 : decode cX1_plainNumber 4 = .ok (.istore_n 1, 1) := by decide +kernel
theorem dX1_plainNumber_5 : decode cX1_plainNumber 5 = .ok (.iconst 0, 1) := by decide +kernel
theorem dX1_plainNumber_6 : decode cX1_plainNumber 6 = .ok (.istore_n 2, 1) := by decide +kernel
theorem dX1_plainNumber_7 : decode cX1_plainNumber 7 = .ok (.iconst 1, 1) := by decide +kernel
theorem dX1_plainNumber_8 : decode cX1_plainNumber 8 = .ok (.istore_n 3, 1) := by decide +kernel
theorem dX1_plainNumber_9 : decode cX1_plainNumber 9 = .ok (.iload_n 3, 1) := by decide +kernel
theorem dX1_plainNumber_10 : decode cX1_plainNumber 10 = .ok (.iload_n 1, 1) := by decide +kernel
theorem dX1_plainNumber_11 : decode cX1_plainNumber 11 = .ok (.if_icmp .gt 27, 3) := by decide +kernel
theorem dX1_plainNumber_14 : decode cX1_plainNumber 14 = .ok (.iload_n 3, 1) := by decide +kernel
theorem dX1_plainNumber_15 : decode cX1_plainNumber 15 = .ok (.bipush 9, 2) := by decide +kernel
theorem dX1_plainNumber_17 : decode cX1_plainNumber 17 = .ok (.if_icmp .gt 21, 3) := by decide +kernel
theorem dX1_plainNumber_20 : decode cX1_plainNumber 20 = .ok (.iload_n 2, 1) := by decide +kernel
theorem dX1_plainNumber_21 : decode cX1_plainNumber 21 = .ok (.bipush 10, 2) := by decide +kernel
theorem dX1_plainNumber_23 : decode cX1_plainNumber 23 = .ok (.imul, 1) := by decide +kernel
theorem dX1_plainNumber_24 : decode cX1_plainNumber 24 = .ok (.aload_n 0, 1) := by decide +kernel
theorem dX1_plainNumber_25 : decode cX1_plainNumber 25 = .ok (.getfield 9, 3) := by decide +kernel
theorem dX1_plainNumber_28 : decode cX1_plainNumber 28 = .ok (.iload_n 3, 1) := by decide +kernel
theorem dX1_plainNumber_29 : decode cX1_plainNumber 29 = .ok (.iaload, 1) := by decide +kernel
theorem dX1_plainNumber_30 : decode cX1_plainNumber 30 = .ok (.iadd, 1) := by decide +kernel
theorem dX1_plainNumber_31 : decode cX1_plainNumber 31 = .ok (.istore_n 2, 1) := by decide +kernel
theorem dX1_plainNumber_32 : decode cX1_plainNumber 32 = .ok (.iinc 3 1, 3) := by decide +kernel
theorem dX1_plainNumber_35 : decode cX1_plainNumber 35 = .ok (.goto (-26), 3) := by decide +kernel
theorem dX1_plainNumber_38 : decode cX1_plainNumber 38 = .ok (.iload_n 2, 1) := by decide +kernel
theorem dX1_plainNumber_39 : decode cX1_plainNumber 39 = .ok (.ireturn, 1) := by decide +kernel
set_option maxRecDepth 20000 in
theorem ggX1_isSmall_X1_plainCount : GoodIn wsX1_isSmall wsX1_plainCount := goodIn_r _ [5, 6, 7] (by decide +kernel) (by decide +kernel)
set_option maxRecDepth 20000 in
theorem gX1_isSmall_X1_plainCount : GoodIn wsX1_isSmall (wsV RX1 43 RX1 yX1_plainCount wsX1_plainCount) := goodIn_app (goodIn_of _ (by decide +kernel)) ggX1_isSmall_X1_plainCount
theorem dX1_isSmall_0 : decode cX1_isSmall 0 = .ok (.aload_n 0, 1) := by decide +kernel
theorem dX1_isSmall_1 : decode cX1_isSmall 1 = .ok (.invokevirtual 43, 3) := by decide +kernel
theorem dX1_isSmall_4 : decode cX1_isSmall 4 = .ok (.iconst 5, 1) := by decide +kernel
theorem dX1_isSmall_5 : decode cX1_isSmall 5 = .ok (.if_icmp .gt 7, 3) := by decide +kernel
theorem dX1_isSmall_8 : decode cX1_isSmall 8 = .ok (.iconst 1, 1) := by decide +kernel
theorem dX1_isSmall_9 : decode cX1_isSmall 9 = .ok (.goto 4, 3) := by decide +kernel
theorem dX1_isSmall_12 : decode cX1_isSmall 12 = .ok (.iconst 0, 1) := by decide +kernel
theorem dX1_isSmall_13 : decode cX1_isSmall 13 = .ok (.ireturn, 1) := by decide +kernel
set_option maxRecDepth 20000 in
theorem ggX1_codeAt_X1_digit : GoodIn wsX1_codeAt wsX1_digit := goodIn_r _ [5, 6, 7] (by decide +kernel) (by decide +kernel)
set_option maxRecDepth 20000 in
theorem gX1_codeAt_X1_digit : GoodIn wsX1_codeAt (wsV RX1 19 RX1 yX1_digit wsX1_digit) := goodIn_app (goodIn_of _ (by decide +kernel)) ggX1_codeAt_X1_digit
theorem dX1_codeAt_0 : decode cX1_codeAt 0 = .ok (.iconst 0, 1) := by decide +kernel
theorem dX1_codeAt_1 : decode cX1_codeAt 1 = .ok (.istore_n 2, 1) := by decide +kernel
theorem dX1_codeAt_2 : decode cX1_codeAt 2 = .ok (.iload_n 1, 1) := by decide +kernel
theorem dX1_codeAt_3 : decode cX1_codeAt 3 = .ok (.iconst 1, 1) := by decide +kernel
theorem dX1_codeAt_4 : decode cX1_codeAt 4 = .ok (.iadd, 1) := by decide +kernel
theorem dX1_codeAt_5 : decode cX1_codeAt 5 = .ok (.istore_n 3, 1) := by decide +kernel
theorem dX1_codeAt_6 : decode cX1_codeAt 6 = .ok (.iload_n 3, 1) := by decide +kernel
theorem dX1_codeAt_7 : decode cX1_codeAt 7 = .ok (.bipush 9, 2) := by decide +kernel
theorem dX1_codeAt_9 : decode cX1_codeAt 9 = .ok (.if_icmp .gt 25, 3) := by decide +kernel
theorem dX1_codeAt_12 : decode cX1_codeAt 12 = .ok (.aload_n 0, 1) := by decide +kernel
theorem dX1_codeAt_13 : decode cX1_codeAt 13 = .ok (.iload_n 3, 1) := by decide +kernel
theorem dX1_codeAt_14 : decode cX1_codeAt 14 = .ok (.invokevirtual 19, 3) := by decide +kernel
theorem dX1_codeAt_17 : decode cX1_codeAt 17 = .ok (.aload_n 0, 1) := by decide +kernel
theorem dX1_codeAt_18 : decode cX1_codeAt 18 = .ok (.iload_n 1, 1) := by decide +kernel
theorem dX1_codeAt_19 : decode cX1_codeAt 19 = .ok (.invokevirtual 19, 3) := by decide +kernel
theorem dX1_codeAt_22 : decode cX1_codeAt 22 = .ok (.if_icmp .ge 6, 3) := by decide +kernel
theorem dX1_codeAt_25 : decode cX1_codeAt 25 = .ok (.iinc 2 1, 3) := by decide +kernel
theorem dX1_codeAt_28 : decode cX1_codeAt 28 = .ok (.iinc 3 1, 3) := by decide +kernel
theorem dX1_codeAt_31 : decode cX1_codeAt 31 = .ok (.goto (-25), 3) := by decide +kernel
theorem dX1_codeAt_34 : decode cX1_codeAt 34 = .ok (.iload_n 2, 1) := by decide +kernel
theorem dX1_codeAt_35 : decode cX1_codeAt 35 = .ok (.ireturn, 1) := by decide +kernel
set_option maxRecDepth 20000 in
theorem ggX1_inversions_X1_codeAt : GoodIn wsX1_inversions wsX1_codeAt := goodIn_r _ [5, 6, 7, 8, 4, 9, 10, 11] (by decide +kernel) (by decide +kernel)
set_option maxRecDepth 20000 in
theorem gX1_inversions_X1_codeAt : GoodIn wsX1_inversions (wsV RX1 47 RX1 yX1_codeAt wsX1_codeAt) := goodIn_app (goodIn_of _ (by decide +kernel)) ggX1_inversions_X1_codeAt
theorem dX1_inversions_0 : decode cX1_inversions 0 = .ok (.iconst 0, 1) := by decide +kernel
theorem dX1_inversions_1 : decode cX1_inversions 1 = .ok (.istore_n 1, 1) := by decide +kernel
theorem dX1_inversions_2 : decode cX1_inversions 2 = .ok (.iconst 1, 1) := by decide +kernel
theorem dX1_inversions_3 : decode cX1_inversions 3 = .ok (.istore_n 2, 1) := by decide +kernel
theorem dX1_inversions_4 : decode cX1_inversions 4 = .ok (.iload_n 2, 1) := by decide +kernel
theorem dX1_inversions_5 : decode cX1_inversions 5 = .ok (.bipush 9, 2) := by decide +kernel
theorem dX1_inversions_7 : decode cX1_inversions 7 = .ok (.if_icmp .ge 17, 3) := by decide +kernel
theorem dX1_inversions_10 : decode cX1_inversions 10 = .ok (.iload_n 1, 1) := by decide +kernel
theorem dX1_inversions_11 : decode cX1_inversions 11 = .ok (.aload_n 0, 1) := by decide +kernel
theorem dX1_inversions_12 : decode cX1_inversions 12 = .ok (.iload_n 2, 1) := by decide +kernel
theorem dX1_inversions_13 : decode cX1_inversions 13 = .ok (.invokevirtual 47, 3) := by decide +kernel
theorem dX1_inversions_16 : decode cX1_inversions 16 = .ok (.iadd, 1) := by decide +kernel
theorem dX1_inversions_17 : decode cX1_inversions 17 = .ok (.istore_n 1, 1) := by decide +kernel
theorem dX1_inversions_18 : decode cX1_inversions 18 = .ok (.iinc 2 1, 3) := by decide +kernel
theorem dX1_inversions_21 : decode cX1_inversions 21 = .ok (.goto (-17), 3) := by decide +kernel
theorem dX1_inversions_24 : decode cX1_inversions 24 = .ok (.iload_n 1, 1) := by decide +kernel
theorem dX1_inversions_25 : decode cX1_inversions 25 = .ok (.ireturn, 1) := by decide +kernel
set_option maxRecDepth 20000 in
theorem ggX1_codeCell_X1_codeAt : GoodIn wsX1_codeCell wsX1_codeAt := goodIn_r _ [5, 6, 7, 8, 4, 9, 10, 17] (by decide +kernel) (by decide +kernel)
set_option maxRecDepth 20000 in
theorem gX1_codeCell_X1_codeAt : GoodIn wsX1_codeCell (wsV RX1 47 RX1 yX1_codeAt wsX1_codeAt) := goodIn_app (goodIn_of _ (by decide +kernel)) ggX1_codeCell_X1_codeAt
set_option maxRecDepth 20000 in
theorem ggX1_codeCell_X5_cellOf : GoodIn wsX1_codeCell wsX5_cellOf := goodIn_r _ [13, 14, 15, 12, 16] (by decide +kernel) (by decide +kernel)
set_option maxRecDepth 20000 in
theorem gX1_codeCell_X5_cellOf_n50 : GoodIn wsX1_codeCell (wsX5_cellOf) := ggX1_codeCell_X5_cellOf
theorem dX1_codeCell_0 : decode cX1_codeCell 0 = .ok (.aload_n 0, 1) := by decide +kernel
theorem dX1_codeCell_1 : decode cX1_codeCell 1 = .ok (.iconst 1, 1) := by decide +kernel
theorem dX1_codeCell_2 : decode cX1_codeCell 2 = .ok (.invokevirtual 47, 3) := by decide +kernel
theorem dX1_codeCell_5 : decode cX1_codeCell 5 = .ok (.aload_n 0, 1) := by decide +kernel
theorem dX1_codeCell_6 : decode cX1_codeCell 6 = .ok (.iconst 2, 1) := by decide +kernel
theorem dX1_codeCell_7 : decode cX1_codeCell 7 = .ok (.invokevirtual 47, 3) := by decide +kernel
theorem dX1_codeCell_10 : decode cX1_codeCell 10 = .ok (.aload_n 0, 1) := by decide +kernel
theorem dX1_codeCell_11 : decode cX1_codeCell 11 = .ok (.iconst 3, 1) := by decide +kernel
theorem dX1_codeCell_12 : decode cX1_codeCell 12 = .ok (.invokevirtual 47, 3) := by decide +kernel
theorem dX1_codeCell_15 : decode cX1_codeCell 15 = .ok (.aload_n 0, 1) := by decide +kernel
theorem dX1_codeCell_16 : decode cX1_codeCell 16 = .ok (.iconst 4, 1) := by decide +kernel
theorem dX1_codeCell_17 : decode cX1_codeCell 17 = .ok (.invokevirtual 47, 3) := by decide +kernel
theorem dX1_codeCell_20 : decode cX1_codeCell 20 = .ok (.invokestatic 50, 3) := by decide +kernel
theorem dX1_codeCell_23 : decode cX1_codeCell 23 = .ok (.ireturn, 1) := by decide +kernel
theorem dX1_descentSet_0 : decode cX1_descentSet 0 = .ok (.iconst 0, 1) := by decide +kernel
theorem dX1_descentSet_1 : decode cX1_descentSet 1 = .ok (.istore_n 1, 1) := by decide +kernel
theorem dX1_descentSet_2 : decode cX1_descentSet 2 = .ok (.iconst 1, 1) := by decide +kernel
theorem dX1_descentSet_3 : decode cX1_descentSet 3 = .ok (.istore_n 2, 1) := by decide +kernel
theorem dX1_descentSet_4 : decode cX1_descentSet 4 = .ok (.iload_n 2, 1) := by decide +kernel
theorem dX1_descentSet_5 : decode cX1_descentSet 5 = .ok (.bipush 9, 2) := by decide +kernel
theorem dX1_descentSet_7 : decode cX1_descentSet 7 = .ok (.if_icmp .ge 32, 3) := by decide +kernel
theorem dX1_descentSet_10 : decode cX1_descentSet 10 = .ok (.aload_n 0, 1) := by decide +kernel
theorem dX1_descentSet_11 : decode cX1_descentSet 11 = .ok (.getfield 9, 3) := by decide +kernel
theorem dX1_descentSet_14 : decode cX1_descentSet 14 = .ok (.iload_n 2, 1) := by decide +kernel
theorem dX1_descentSet_15 : decode cX1_descentSet 15 = .ok (.iaload, 1) := by decide +kernel
theorem dX1_descentSet_16 : decode cX1_descentSet 16 = .ok (.aload_n 0, 1) := by decide +kernel
theorem dX1_descentSet_17 : decode cX1_descentSet 17 = .ok (.getfield 9, 3) := by decide +kernel
theorem dX1_descentSet_20 : decode cX1_descentSet 20 = .ok (.iload_n 2, 1) := by decide +kernel
theorem dX1_descentSet_21 : decode cX1_descentSet 21 = .ok (.iconst 1, 1) := by decide +kernel
theorem dX1_descentSet_22 : decode cX1_descentSet 22 = .ok (.iadd, 1) := by decide +kernel
theorem dX1_descentSet_23 : decode cX1_descentSet 23 = .ok (.iaload, 1) := by decide +kernel
theorem dX1_descentSet_24 : decode cX1_descentSet 24 = .ok (.if_icmp .le 9, 3) := by decide +kernel
theorem dX1_descentSet_27 : decode cX1_descentSet 27 = .ok (.iload_n 1, 1) := by decide +kernel
theorem dX1_descentSet_28 : decode cX1_descentSet 28 = .ok (.iconst 1, 1) := by decide +kernel
theorem dX1_descentSet_29 : decode cX1_descentSet 29 = .ok (.iload_n 2, 1) := by decide +kernel
theorem dX1_descentSet_30 : decode cX1_descentSet 30 = .ok (.ishl, 1) := by decide +kernel
theorem dX1_descentSet_31 : decode cX1_descentSet 31 = .ok (.ior, 1) := by decide +kernel
theorem dX1_descentSet_32 : decode cX1_descentSet 32 = .ok (.istore_n 1, 1) := by decide +kernel
theorem dX1_descentSet_33 : decode cX1_descentSet 33 = .ok (.iinc 2 1, 3) := by decide +kernel
theorem dX1_descentSet_36 : decode cX1_descentSet 36 = .ok (.goto (-32), 3) := by decide +kernel
theorem dX1_descentSet_39 : decode cX1_descentSet 39 = .ok (.iload_n 1, 1) := by decide +kernel
theorem dX1_descentSet_40 : decode cX1_descentSet 40 = .ok (.ireturn, 1) := by decide +kernel
set_option maxRecDepth 20000 in
theorem ggX1_isFit_X1_lastDescent : GoodIn wsX1_isFit wsX1_lastDescent := goodIn_r _ [5, 6, 7] (by decide +kernel) (by decide +kernel)
set_option maxRecDepth 20000 in
theorem gX1_isFit_X1_lastDescent : GoodIn wsX1_isFit (wsV RX1 54 RX1 yX1_lastDescent wsX1_lastDescent) := goodIn_app (goodIn_of _ (by decide +kernel)) ggX1_isFit_X1_lastDescent
theorem dX1_isFit_0 : decode cX1_isFit 0 = .ok (.aload_n 0, 1) := by decide +kernel
theorem dX1_isFit_1 : decode cX1_isFit 1 = .ok (.invokevirtual 54, 3) := by decide +kernel
theorem dX1_isFit_4 : decode cX1_isFit 4 = .ok (.iconst 4, 1) := by decide +kernel
theorem dX1_isFit_5 : decode cX1_isFit 5 = .ok (.if_icmp .gt 7, 3) := by decide +kernel
theorem dX1_isFit_8 : decode cX1_isFit 8 = .ok (.iconst 1, 1) := by decide +kernel
theorem dX1_isFit_9 : decode cX1_isFit 9 = .ok (.goto 4, 3) := by decide +kernel
theorem dX1_isFit_12 : decode cX1_isFit 12 = .ok (.iconst 0, 1) := by decide +kernel
theorem dX1_isFit_13 : decode cX1_isFit 13 = .ok (.ireturn, 1) := by decide +kernel
theorem dX1_lastDescent_0 : decode cX1_lastDescent 0 = .ok (.iconst 0, 1) := by decide +kernel
theorem dX1_lastDescent_1 : decode cX1_lastDescent 1 = .ok (.istore_n 1, 1) := by decide +kernel
theorem dX1_lastDescent_2 : decode cX1_lastDescent 2 = .ok (.iconst 1, 1) := by decide +kernel
theorem dX1_lastDescent_3 : decode cX1_lastDescent 3 = .ok (.istore_n 2, 1) := by decide +kernel
theorem dX1_lastDescent_4 : decode cX1_lastDescent 4 = .ok (.iload_n 2, 1) := by decide +kernel
theorem dX1_lastDescent_5 : decode cX1_lastDescent 5 = .ok (.bipush 9, 2) := by decide +kernel
theorem dX1_lastDescent_7 : decode cX1_lastDescent 7 = .ok (.if_icmp .ge 28, 3) := by decide +kernel
theorem dX1_lastDescent_10 : decode cX1_lastDescent 10 = .ok (.aload_n 0, 1) := by decide +kernel
theorem dX1_lastDescent_11 : decode cX1_lastDescent 11 = .ok (.getfield 9, 3) := by decide +kernel
theorem dX1_lastDescent_14 : decode cX1_lastDescent 14 = .ok (.iload_n 2, 1) := by decide +kernel
theorem dX1_lastDescent_15 : decode cX1_lastDescent 15 = .ok (.iaload, 1) := by decide +kernel
theorem dX1_lastDescent_16 : decode cX1_lastDescent 16 = .ok (.aload_n 0, 1) := by decide +kernel
theorem dX1_lastDescent_17 : decode cX1_lastDescent 17 = .ok (.getfield 9, 3) := by decide +kernel
theorem dX1_lastDescent_20 : decode cX1_lastDescent 20 = .ok (.iload_n 2, 1) := by decide +kernel
theorem dX1_lastDescent_21 : decode cX1_lastDescent 21 = .ok (.iconst 1, 1) := by decide +kernel
theorem dX1_lastDescent_22 : decode cX1_lastDescent 22 = .ok (.iadd, 1) := by decide +kernel
theorem dX1_lastDescent_23 : decode cX1_lastDescent 23 = .ok (.iaload, 1) := by decide +kernel
theorem dX1_lastDescent_24 : decode cX1_lastDescent 24 = .ok (.if_icmp .le 5, 3) := by decide +kernel
theorem dX1_lastDescent_27 : decode cX1_lastDescent 27 = .ok (.iload_n 2, 1) := by decide +kernel
theorem dX1_lastDescent_28 : decode cX1_lastDescent 28 = .ok (.istore_n 1, 1) := by decide +kernel
theorem dX1_lastDescent_29 : decode cX1_lastDescent 29 = .ok (.iinc 2 1, 3) := by decide +kernel
theorem dX1_lastDescent_32 : decode cX1_lastDescent 32 = .ok (.goto (-28), 3) := by decide +kernel
theorem dX1_lastDescent_35 : decode cX1_lastDescent 35 = .ok (.iload_n 1, 1) := by decide +kernel
theorem dX1_lastDescent_36 : decode cX1_lastDescent 36 = .ok (.ireturn, 1) := by decide +kernel
set_option maxRecDepth 20000 in
theorem ggX1_lastLessThan_X1_digit : GoodIn wsX1_lastLessThan wsX1_digit := goodIn_r _ [6, 1, 7] (by decide +kernel) (by decide +kernel)
set_option maxRecDepth 20000 in
theorem gX1_lastLessThan_X1_digit : GoodIn wsX1_lastLessThan (wsV RX1 19 RX1 yX1_digit wsX1_digit) := goodIn_app (goodIn_of _ (by decide +kernel)) ggX1_lastLessThan_X1_digit
theorem dX1_lastLessThan_0 : decode cX1_lastLessThan 0 = .ok (.iload_n 1, 1) := by decide +kernel
theorem dX1_lastLessThan_1 : decode cX1_lastLessThan 1 = .ok (.istore_n 2, 1) := by decide +kernel
theorem dX1_lastLessThan_2 : decode cX1_lastLessThan 2 = .ok (.iconst 1, 1) := by decide +kernel
theorem dX1_lastLessThan_3 : decode cX1_lastLessThan 3 = .ok (.istore_n 3, 1) := by decide +kernel
theorem dX1_lastLessThan_4 : decode cX1_lastLessThan 4 = .ok (.iload_n 3, 1) := by decide +kernel
theorem dX1_lastLessThan_5 : decode cX1_lastLessThan 5 = .ok (.bipush 9, 2) := by decide +kernel
theorem dX1_lastLessThan_7 : decode cX1_lastLessThan 7 = .ok (.if_icmp .gt 25, 3) := by decide +kernel
theorem dX1_lastLessThan_10 : decode cX1_lastLessThan 10 = .ok (.aload_n 0, 1) := by decide +kernel
theorem dX1_lastLessThan_11 : decode cX1_lastLessThan 11 = .ok (.getfield 9, 3) := by decide +kernel
theorem dX1_lastLessThan_14 : decode cX1_lastLessThan 14 = .ok (.iload_n 3, 1) := by decide +kernel
theorem dX1_lastLessThan_15 : decode cX1_lastLessThan 15 = .ok (.iaload, 1) := by decide +kernel
theorem dX1_lastLessThan_16 : decode cX1_lastLessThan 16 = .ok (.aload_n 0, 1) := by decide +kernel
theorem dX1_lastLessThan_17 : decode cX1_lastLessThan 17 = .ok (.iload_n 1, 1) := by decide +kernel
theorem dX1_lastLessThan_18 : decode cX1_lastLessThan 18 = .ok (.invokevirtual 19, 3) := by decide +kernel
theorem dX1_lastLessThan_21 : decode cX1_lastLessThan 21 = .ok (.if_icmp .ge 5, 3) := by decide +kernel
theorem dX1_lastLessThan_24 : decode cX1_lastLessThan 24 = .ok (.iload_n 3, 1) := by decide +kernel
theorem dX1_lastLessThan_25 : decode cX1_lastLessThan 25 = .ok (.istore_n 2, 1) := by decide +kernel
theorem dX1_lastLessThan_26 : decode cX1_lastLessThan 26 = .ok (.iinc 3 1, 3) := by decide +kernel
theorem dX1_lastLessThan_29 : decode cX1_lastLessThan 29 = .ok (.goto (-25), 3) := by decide +kernel
theorem dX1_lastLessThan_32 : decode cX1_lastLessThan 32 = .ok (.iload_n 2, 1) := by decide +kernel
theorem dX1_lastLessThan_33 : decode cX1_lastLessThan 33 = .ok (.ireturn, 1) := by decide +kernel
theorem dX1_isBelow_0 : decode cX1_isBelow 0 = .ok (.iconst 1, 1) := by decide +kernel
theorem dX1_isBelow_1 : decode cX1_isBelow 1 = .ok (.istore_n 2, 1) := by decide +kernel
theorem dX1_isBelow_2 : decode cX1_isBelow 2 = .ok (.iload_n 2, 1) := by decide +kernel
theorem dX1_isBelow_3 : decode cX1_isBelow 3 = .ok (.bipush 9, 2) := by decide +kernel
theorem dX1_isBelow_5 : decode cX1_isBelow 5 = .ok (.if_icmp .gt 71, 3) := by decide +kernel
theorem dX1_isBelow_8 : decode cX1_isBelow 8 = .ok (.iconst 0, 1) := by decide +kernel
theorem dX1_isBelow_9 : decode cX1_isBelow 9 = .ok (.istore_n 3, 1) := by decide +kernel
theorem dX1_isBelow_10 : decode cX1_isBelow 10 = .ok (.iconst 1, 1) := by decide +kernel
theorem dX1_isBelow_11 : decode cX1_isBelow 11 = .ok (.istore 4, 2) := by decide +kernel
theorem dX1_isBelow_13 : decode cX1_isBelow 13 = .ok (.iload 4, 2) := by decide +kernel
theorem dX1_isBelow_15 : decode cX1_isBelow 15 = .ok (.bipush 9, 2) := by decide +kernel
theorem dX1_isBelow_17 : decode cX1_isBelow 17 = .ok (.if_icmp .gt 53, 3) := by decide +kernel
theorem dX1_isBelow_20 : decode cX1_isBelow 20 = .ok (.iload_n 3, 1) := by decide +kernel
theorem dX1_isBelow_21 : decode cX1_isBelow 21 = .ok (.aload_n 0, 1) := by decide +kernel
theorem dX1_isBelow_22 : decode cX1_isBelow 22 = .ok (.getfield 9, 3) := by decide +kernel
theorem dX1_isBelow_25 : decode cX1_isBelow 25 = .ok (.iload 4, 2) := by decide +kernel
theorem dX1_isBelow_27 : decode cX1_isBelow 27 = .ok (.iaload, 1) := by decide +kernel
theorem dX1_isBelow_28 : decode cX1_isBelow 28 = .ok (.iload_n 2, 1) := by decide +kernel
theorem dX1_isBelow_29 : decode cX1_isBelow 29 = .ok (.if_icmp .lt 7, 3) := by decide +kernel
theorem dX1_isBelow_32 : decode cX1_isBelow 32 = .ok (.iconst 1, 1) := by decide +kernel
theorem dX1_isBelow_33 : decode cX1_isBelow 33 = .ok (.goto 4, 3) := by decide +kernel
theorem dX1_isBelow_36 : decode cX1_isBelow 36 = .ok (.iconst 0, 1) := by decide +kernel
theorem dX1_isBelow_37 : decode cX1_isBelow 37 = .ok (.iadd, 1) := by decide +kernel
theorem dX1_isBelow_38 : decode cX1_isBelow 38 = .ok (.istore_n 3, 1) := by decide +kernel
theorem dX1_isBelow_39 : decode cX1_isBelow 39 = .ok (.iload_n 3, 1) := by decide +kernel
theorem dX1_isBelow_40 : decode cX1_isBelow 40 = .ok (.aload_n 1, 1) := by decide +kernel
theorem dX1_isBelow_41 : decode cX1_isBelow 41 = .ok (.getfield 9, 3) := by decide +kernel
theorem dX1_isBelow_44 : decode cX1_isBelow 44 = .ok (.iload 4, 2) := by decide +kernel
theorem dX1_isBelow_46 : decode cX1_isBelow 46 = .ok (.iaload, 1) := by decide +kernel
theorem dX1_isBelow_47 : decode cX1_isBelow 47 = .ok (.iload_n 2, 1) := by decide +kernel
theorem dX1_isBelow_48 : decode cX1_isBelow 48 = .ok (.if_icmp .lt 7, 3) := by decide +kernel
theorem dX1_isBelow_51 : decode cX1_isBelow 51 = .ok (.iconst 1, 1) := by decide +kernel
theorem dX1_isBelow_52 : decode cX1_isBelow 52 = .ok (.goto 4, 3) := by decide +kernel
theorem dX1_isBelow_55 : decode cX1_isBelow 55 = .ok (.iconst 0, 1) := by decide +kernel
theorem dX1_isBelow_56 : decode cX1_isBelow 56 = .ok (.isub, 1) := by decide +kernel
theorem dX1_isBelow_57 : decode cX1_isBelow 57 = .ok (.istore_n 3, 1) := by decide +kernel
theorem dX1_isBelow_58 : decode cX1_isBelow 58 = .ok (.iload_n 3, 1) := by decide +kernel
theorem dX1_isBelow_59 : decode cX1_isBelow 59 = .ok (.ifCond .le 5, 3) := by decide +kernel
theorem dX1_isBelow_62 : decode cX1_isBelow 62 = .ok (.iconst 0, 1) := by decide +kernel
theorem dX1_isBelow_63 : decode cX1_isBelow 63 = .ok (.ireturn, 1) := by decide +kernel
theorem dX1_isBelow_64 : decode cX1_isBelow 64 = .ok (.iinc 4 1, 3) := by decide +kernel
theorem dX1_isBelow_67 : decode cX1_isBelow 67 = .ok (.goto (-54), 3) := by decide +kernel
theorem dX1_isBelow_70 : decode cX1_isBelow 70 = .ok (.iinc 2 1, 3) := by decide +kernel
theorem dX1_isBelow_73 : decode cX1_isBelow 73 = .ok (.goto (-71), 3) := by decide +kernel
theorem dX1_isBelow_76 : decode cX1_isBelow 76 = .ok (.iconst 1, 1) := by decide +kernel
theorem dX1_isBelow_77 : decode cX1_isBelow 77 = .ok (.ireturn, 1) := by decide +kernel
set_option maxRecDepth 20000 in
theorem ggX1_hasLeastGreatestMiddle_X1_leastAhead : GoodIn wsX1_hasLeastGreatestMiddle wsX1_leastAhead := goodIn_r _ [6, 7, 8, 9, 10, 11, 12, 13, 5, 14, 1, 15] (by decide +kernel) (by decide +kernel)
set_option maxRecDepth 20000 in
theorem gX1_hasLeastGreatestMiddle_X1_leastAhead : GoodIn wsX1_hasLeastGreatestMiddle (wsV RX1 57 RX1 yX1_leastAhead wsX1_leastAhead) := goodIn_app (goodIn_of _ (by decide +kernel)) ggX1_hasLeastGreatestMiddle_X1_leastAhead
theorem dX1_hasLeastGreatestMiddle_0 : decode cX1_hasLeastGreatestMiddle 0 = .ok (.iconst 2, 1) := by decide +kernel
theorem dX1_hasLeastGreatestMiddle_1 : decode cX1_hasLeastGreatestMiddle 1 = .ok (.istore_n 1, 1) := by decide +kernel
theorem dX1_hasLeastGreatestMiddle_2 : decode cX1_hasLeastGreatestMiddle 2 = .ok (.iload_n 1, 1) := by decide +kernel
theorem dX1_hasLeastGreatestMiddle_3 : decode cX1_hasLeastGreatestMiddle 3 = .ok (.bipush 9, 2) := by decide +kernel
theorem dX1_hasLeastGreatestMiddle_5 : decode cX1_hasLeastGreatestMiddle 5 = .ok (.if_icmp .ge 56, 3) := by decide +kernel
theorem dX1_hasLeastGreatestMiddle_8 : decode cX1_hasLeastGreatestMiddle 8 = .ok (.iload_n 1, 1) := by decide +kernel
theorem dX1_hasLeastGreatestMiddle_9 : decode cX1_hasLeastGreatestMiddle 9 = .ok (.iconst 1, 1) := by decide +kernel
theorem dX1_hasLeastGreatestMiddle_10 : decode cX1_hasLeastGreatestMiddle 10 = .ok (.iadd, 1) := by decide +kernel
theorem dX1_hasLeastGreatestMiddle_11 : decode cX1_hasLeastGreatestMiddle 11 = .ok (.istore_n 2, 1) := by decide +kernel
theorem dX1_hasLeastGreatestMiddle_12 : decode cX1_hasLeastGreatestMiddle 12 = .ok (.iload_n 2, 1) := by decide +kernel
theorem dX1_hasLeastGreatestMiddle_13 : decode cX1_hasLeastGreatestMiddle 13 = .ok (.bipush 9, 2) := by decide +kernel
theorem dX1_hasLeastGreatestMiddle_15 : decode cX1_hasLeastGreatestMiddle 15 = .ok (.if_icmp .gt 40, 3) := by decide +kernel
theorem dX1_hasLeastGreatestMiddle_18 : decode cX1_hasLeastGreatestMiddle 18 = .ok (.aload_n 0, 1) := by decide +kernel
theorem dX1_hasLeastGreatestMiddle_19 : decode cX1_hasLeastGreatestMiddle 19 = .ok (.getfield 9, 3) := by decide +kernel
theorem dX1_hasLeastGreatestMiddle_22 : decode cX1_hasLeastGreatestMiddle 22 = .ok (.iload_n 2, 1) := by decide +kernel
theorem dX1_hasLeastGreatestMiddle_23 : decode cX1_hasLeastGreatestMiddle 23 = .ok (.iaload, 1) := by decide +kernel
theorem dX1_hasLeastGreatestMiddle_24 : decode cX1_hasLeastGreatestMiddle 24 = .ok (.aload_n 0, 1) := by decide +kernel
theorem dX1_hasLeastGreatestMiddle_25 : decode cX1_hasLeastGreatestMiddle 25 = .ok (.getfield 9, 3) := by decide +kernel
theorem dX1_hasLeastGreatestMiddle_28 : decode cX1_hasLeastGreatestMiddle 28 = .ok (.iload_n 1, 1) := by decide +kernel
theorem dX1_hasLeastGreatestMiddle_29 : decode cX1_hasLeastGreatestMiddle 29 = .ok (.iaload, 1) := by decide +kernel
theorem dX1_hasLeastGreatestMiddle_30 : decode cX1_hasLeastGreatestMiddle 30 = .ok (.if_icmp .ge 19, 3) := by decide +kernel
theorem dX1_hasLeastGreatestMiddle_33 : decode cX1_hasLeastGreatestMiddle 33 = .ok (.aload_n 0, 1) := by decide +kernel
theorem dX1_hasLeastGreatestMiddle_34 : decode cX1_hasLeastGreatestMiddle 34 = .ok (.iload_n 1, 1) := by decide +kernel
theorem dX1_hasLeastGreatestMiddle_35 : decode cX1_hasLeastGreatestMiddle 35 = .ok (.invokevirtual 57, 3) := by decide +kernel
theorem dX1_hasLeastGreatestMiddle_38 : decode cX1_hasLeastGreatestMiddle 38 = .ok (.aload_n 0, 1) := by decide +kernel
theorem dX1_hasLeastGreatestMiddle_39 : decode cX1_hasLeastGreatestMiddle 39 = .ok (.getfield 9, 3) := by decide +kernel
theorem dX1_hasLeastGreatestMiddle_42 : decode cX1_hasLeastGreatestMiddle 42 = .ok (.iload_n 2, 1) := by decide +kernel
theorem dX1_hasLeastGreatestMiddle_43 : decode cX1_hasLeastGreatestMiddle 43 = .ok (.iaload, 1) := by decide +kernel
theorem dX1_hasLeastGreatestMiddle_44 : decode cX1_hasLeastGreatestMiddle 44 = .ok (.if_icmp .ge 5, 3) := by decide +kernel
theorem dX1_hasLeastGreatestMiddle_47 : decode cX1_hasLeastGreatestMiddle 47 = .ok (.iconst 1, 1) := by decide +kernel
theorem dX1_hasLeastGreatestMiddle_48 : decode cX1_hasLeastGreatestMiddle 48 = .ok (.ireturn, 1) := by decide +kernel
theorem dX1_hasLeastGreatestMiddle_49 : decode cX1_hasLeastGreatestMiddle 49 = .ok (.iinc 2 1, 3) := by decide +kernel
theorem dX1_hasLeastGreatestMiddle_52 : decode cX1_hasLeastGreatestMiddle 52 = .ok (.goto (-40), 3) := by decide +kernel
theorem dX1_hasLeastGreatestMiddle_55 : decode cX1_hasLeastGreatestMiddle 55 = .ok (.iinc 1 1, 3) := by decide +kernel
theorem dX1_hasLeastGreatestMiddle_58 : decode cX1_hasLeastGreatestMiddle 58 = .ok (.goto (-56), 3) := by decide +kernel
theorem dX1_hasLeastGreatestMiddle_61 : decode cX1_hasLeastGreatestMiddle 61 = .ok (.iconst 0, 1) := by decide +kernel
theorem dX1_hasLeastGreatestMiddle_62 : decode cX1_hasLeastGreatestMiddle 62 = .ok (.ireturn, 1) := by decide +kernel
set_option maxRecDepth 20000 in
theorem ggX1_leastAhead_X1_digit : GoodIn wsX1_leastAhead wsX1_digit := goodIn_r _ [9, 10, 11] (by decide +kernel) (by decide +kernel)
set_option maxRecDepth 20000 in
theorem gX1_leastAhead_X1_digit : GoodIn wsX1_leastAhead (wsV RX1 19 RX1 yX1_digit wsX1_digit) := goodIn_app (goodIn_of _ (by decide +kernel)) ggX1_leastAhead_X1_digit
theorem dX1_leastAhead_0 : decode cX1_leastAhead 0 = .ok (.bipush 10, 2) := by decide +kernel
theorem dX1_leastAhead_2 : decode cX1_leastAhead 2 = .ok (.istore_n 2, 1) := by decide +kernel
theorem dX1_leastAhead_3 : decode cX1_leastAhead 3 = .ok (.iconst 1, 1) := by decide +kernel
theorem dX1_leastAhead_4 : decode cX1_leastAhead 4 = .ok (.istore_n 3, 1) := by decide +kernel
theorem dX1_leastAhead_5 : decode cX1_leastAhead 5 = .ok (.iload_n 3, 1) := by decide +kernel
theorem dX1_leastAhead_6 : decode cX1_leastAhead 6 = .ok (.iload_n 1, 1) := by decide +kernel
theorem dX1_leastAhead_7 : decode cX1_leastAhead 7 = .ok (.if_icmp .ge 19, 3) := by decide +kernel
theorem dX1_leastAhead_10 : decode cX1_leastAhead 10 = .ok (.iload_n 2, 1) := by decide +kernel
theorem dX1_leastAhead_11 : decode cX1_leastAhead 11 = .ok (.aload_n 0, 1) := by decide +kernel
theorem dX1_leastAhead_12 : decode cX1_leastAhead 12 = .ok (.iload_n 3, 1) := by decide +kernel
theorem dX1_leastAhead_13 : decode cX1_leastAhead 13 = .ok (.invokevirtual 19, 3) := by decide +kernel
theorem dX1_leastAhead_16 : decode cX1_leastAhead 16 = .ok (.invokestatic 60, 3) := by decide +kernel
theorem dX1_leastAhead_19 : decode cX1_leastAhead 19 = .ok (.istore_n 2, 1) := by decide +kernel
theorem dX1_leastAhead_20 : decode cX1_leastAhead 20 = .ok (.iinc 3 1, 3) := by decide +kernel
theorem dX1_leastAhead_23 : decode cX1_leastAhead 23 = .ok (.goto (-18), 3) := by decide +kernel
theorem dX1_leastAhead_26 : decode cX1_leastAhead 26 = .ok (.iload_n 2, 1) := by decide +kernel
theorem dX1_leastAhead_27 : decode cX1_leastAhead 27 = .ok (.ireturn, 1) := by decide +kernel
set_option maxRecDepth 20000 in
theorem ggX1_hasTwoOneFourThree_X1_hasFallAhead : GoodIn wsX1_hasTwoOneFourThree wsX1_hasFallAhead := goodIn_r _ [6, 7, 8, 9, 10, 11, 12, 13, 5, 14, 1, 15] (by decide +kernel) (by decide +kernel)
set_option maxRecDepth 20000 in
theorem gX1_hasTwoOneFourThree_X1_hasFallAhead : GoodIn wsX1_hasTwoOneFourThree (wsV RX1 65 RX1 yX1_hasFallAhead wsX1_hasFallAhead) := goodIn_app (goodIn_of _ (by decide +kernel)) ggX1_hasTwoOneFourThree_X1_hasFallAhead
theorem dX1_hasTwoOneFourThree_0 : decode cX1_hasTwoOneFourThree 0 = .ok (.iconst 3, 1) := by decide +kernel
theorem dX1_hasTwoOneFourThree_1 : decode cX1_hasTwoOneFourThree 1 = .ok (.istore_n 1, 1) := by decide +kernel
theorem dX1_hasTwoOneFourThree_2 : decode cX1_hasTwoOneFourThree 2 = .ok (.iload_n 1, 1) := by decide +kernel
theorem dX1_hasTwoOneFourThree_3 : decode cX1_hasTwoOneFourThree 3 = .ok (.bipush 9, 2) := by decide +kernel
theorem dX1_hasTwoOneFourThree_5 : decode cX1_hasTwoOneFourThree 5 = .ok (.if_icmp .ge 56, 3) := by decide +kernel
theorem dX1_hasTwoOneFourThree_8 : decode cX1_hasTwoOneFourThree 8 = .ok (.iload_n 1, 1) := by decide +kernel
theorem dX1_hasTwoOneFourThree_9 : decode cX1_hasTwoOneFourThree 9 = .ok (.iconst 1, 1) := by decide +kernel
theorem dX1_hasTwoOneFourThree_10 : decode cX1_hasTwoOneFourThree 10 = .ok (.iadd, 1) := by decide +kernel
theorem dX1_hasTwoOneFourThree_11 : decode cX1_hasTwoOneFourThree 11 = .ok (.istore_n 2, 1) := by decide +kernel
theorem dX1_hasTwoOneFourThree_12 : decode cX1_hasTwoOneFourThree 12 = .ok (.iload_n 2, 1) := by decide +kernel
theorem dX1_hasTwoOneFourThree_13 : decode cX1_hasTwoOneFourThree 13 = .ok (.bipush 9, 2) := by decide +kernel
theorem dX1_hasTwoOneFourThree_15 : decode cX1_hasTwoOneFourThree 15 = .ok (.if_icmp .gt 40, 3) := by decide +kernel
theorem dX1_hasTwoOneFourThree_18 : decode cX1_hasTwoOneFourThree 18 = .ok (.aload_n 0, 1) := by decide +kernel
theorem dX1_hasTwoOneFourThree_19 : decode cX1_hasTwoOneFourThree 19 = .ok (.getfield 9, 3) := by decide +kernel
theorem dX1_hasTwoOneFourThree_22 : decode cX1_hasTwoOneFourThree 22 = .ok (.iload_n 2, 1) := by decide +kernel
theorem dX1_hasTwoOneFourThree_23 : decode cX1_hasTwoOneFourThree 23 = .ok (.iaload, 1) := by decide +kernel
theorem dX1_hasTwoOneFourThree_24 : decode cX1_hasTwoOneFourThree 24 = .ok (.aload_n 0, 1) := by decide +kernel
theorem dX1_hasTwoOneFourThree_25 : decode cX1_hasTwoOneFourThree 25 = .ok (.getfield 9, 3) := by decide +kernel
theorem dX1_hasTwoOneFourThree_28 : decode cX1_hasTwoOneFourThree 28 = .ok (.iload_n 1, 1) := by decide +kernel
theorem dX1_hasTwoOneFourThree_29 : decode cX1_hasTwoOneFourThree 29 = .ok (.iaload, 1) := by decide +kernel
theorem dX1_hasTwoOneFourThree_30 : decode cX1_hasTwoOneFourThree 30 = .ok (.if_icmp .ge 19, 3) := by decide +kernel
theorem dX1_hasTwoOneFourThree_33 : decode cX1_hasTwoOneFourThree 33 = .ok (.aload_n 0, 1) := by decide +kernel
theorem dX1_hasTwoOneFourThree_34 : decode cX1_hasTwoOneFourThree 34 = .ok (.iload_n 1, 1) := by decide +kernel
theorem dX1_hasTwoOneFourThree_35 : decode cX1_hasTwoOneFourThree 35 = .ok (.aload_n 0, 1) := by decide +kernel
theorem dX1_hasTwoOneFourThree_36 : decode cX1_hasTwoOneFourThree 36 = .ok (.getfield 9, 3) := by decide +kernel
theorem dX1_hasTwoOneFourThree_39 : decode cX1_hasTwoOneFourThree 39 = .ok (.iload_n 2, 1) := by decide +kernel
theorem dX1_hasTwoOneFourThree_40 : decode cX1_hasTwoOneFourThree 40 = .ok (.iaload, 1) := by decide +kernel
theorem dX1_hasTwoOneFourThree_41 : decode cX1_hasTwoOneFourThree 41 = .ok (.invokevirtual 65, 3) := by decide +kernel
theorem dX1_hasTwoOneFourThree_44 : decode cX1_hasTwoOneFourThree 44 = .ok (.ifCond .eq 5, 3) := by decide +kernel
theorem dX1_hasTwoOneFourThree_47 : decode cX1_hasTwoOneFourThree 47 = .ok (.iconst 1, 1) := by decide +kernel
theorem dX1_hasTwoOneFourThree_48 : decode cX1_hasTwoOneFourThree 48 = .ok (.ireturn, 1) := by decide +kernel
theorem dX1_hasTwoOneFourThree_49 : decode cX1_hasTwoOneFourThree 49 = .ok (.iinc 2 1, 3) := by decide +kernel
theorem dX1_hasTwoOneFourThree_52 : decode cX1_hasTwoOneFourThree 52 = .ok (.goto (-40), 3) := by decide +kernel
theorem dX1_hasTwoOneFourThree_55 : decode cX1_hasTwoOneFourThree 55 = .ok (.iinc 1 1, 3) := by decide +kernel
theorem dX1_hasTwoOneFourThree_58 : decode cX1_hasTwoOneFourThree 58 = .ok (.goto (-56), 3) := by decide +kernel
theorem dX1_hasTwoOneFourThree_61 : decode cX1_hasTwoOneFourThree 61 = .ok (.iconst 0, 1) := by decide +kernel
theorem dX1_hasTwoOneFourThree_62 : decode cX1_hasTwoOneFourThree 62 = .ok (.ireturn, 1) := by decide +kernel
set_option maxRecDepth 20000 in
theorem ggX1_hasFallAhead_X1_digit : GoodIn wsX1_hasFallAhead wsX1_digit := goodIn_r _ [9, 10, 11] (by decide +kernel) (by decide +kernel)
set_option maxRecDepth 20000 in
theorem gX1_hasFallAhead_X1_digit : GoodIn wsX1_hasFallAhead (wsV RX1 19 RX1 yX1_digit wsX1_digit) := goodIn_app (goodIn_of _ (by decide +kernel)) ggX1_hasFallAhead_X1_digit
theorem dX1_hasFallAhead_0 : decode cX1_hasFallAhead 0 = .ok (.iconst 0, 1) := by decide +kernel
theorem dX1_hasFallAhead_1 : decode cX1_hasFallAhead 1 = .ok (.istore_n 3, 1) := by decide +kernel
theorem dX1_hasFallAhead_2 : decode cX1_hasFallAhead 2 = .ok (.iconst 1, 1) := by decide +kernel
theorem dX1_hasFallAhead_3 : decode cX1_hasFallAhead 3 = .ok (.istore 4, 2) := by decide +kernel
theorem dX1_hasFallAhead_5 : decode cX1_hasFallAhead 5 = .ok (.iload 4, 2) := by decide +kernel
theorem dX1_hasFallAhead_7 : decode cX1_hasFallAhead 7 = .ok (.iload_n 1, 1) := by decide +kernel
theorem dX1_hasFallAhead_8 : decode cX1_hasFallAhead 8 = .ok (.if_icmp .ge 38, 3) := by decide +kernel
theorem dX1_hasFallAhead_11 : decode cX1_hasFallAhead 11 = .ok (.aload_n 0, 1) := by decide +kernel
theorem dX1_hasFallAhead_12 : decode cX1_hasFallAhead 12 = .ok (.iload 4, 2) := by decide +kernel
theorem dX1_hasFallAhead_14 : decode cX1_hasFallAhead 14 = .ok (.invokevirtual 19, 3) := by decide +kernel
theorem dX1_hasFallAhead_17 : decode cX1_hasFallAhead 17 = .ok (.istore 5, 2) := by decide +kernel
theorem dX1_hasFallAhead_19 : decode cX1_hasFallAhead 19 = .ok (.iload 5, 2) := by decide +kernel
theorem dX1_hasFallAhead_21 : decode cX1_hasFallAhead 21 = .ok (.iload_n 3, 1) := by decide +kernel
theorem dX1_hasFallAhead_22 : decode cX1_hasFallAhead 22 = .ok (.if_icmp .ge 5, 3) := by decide +kernel
theorem dX1_hasFallAhead_25 : decode cX1_hasFallAhead 25 = .ok (.iconst 1, 1) := by decide +kernel
theorem dX1_hasFallAhead_26 : decode cX1_hasFallAhead 26 = .ok (.ireturn, 1) := by decide +kernel
theorem dX1_hasFallAhead_27 : decode cX1_hasFallAhead 27 = .ok (.iload 5, 2) := by decide +kernel
theorem dX1_hasFallAhead_29 : decode cX1_hasFallAhead 29 = .ok (.iload_n 2, 1) := by decide +kernel
theorem dX1_hasFallAhead_30 : decode cX1_hasFallAhead 30 = .ok (.if_icmp .ge 10, 3) := by decide +kernel
theorem dX1_hasFallAhead_33 : decode cX1_hasFallAhead 33 = .ok (.iload_n 3, 1) := by decide +kernel
theorem dX1_hasFallAhead_34 : decode cX1_hasFallAhead 34 = .ok (.iload 5, 2) := by decide +kernel
theorem dX1_hasFallAhead_36 : decode cX1_hasFallAhead 36 = .ok (.invokestatic 69, 3) := by decide +kernel
theorem dX1_hasFallAhead_39 : decode cX1_hasFallAhead 39 = .ok (.istore_n 3, 1) := by decide +kernel
theorem dX1_hasFallAhead_40 : decode cX1_hasFallAhead 40 = .ok (.iinc 4 1, 3) := by decide +kernel
theorem dX1_hasFallAhead_43 : decode cX1_hasFallAhead 43 = .ok (.goto (-38), 3) := by decide +kernel
theorem dX1_hasFallAhead_46 : decode cX1_hasFallAhead 46 = .ok (.iconst 0, 1) := by decide +kernel
theorem dX1_hasFallAhead_47 : decode cX1_hasFallAhead 47 = .ok (.ireturn, 1) := by decide +kernel
theorem dX2_init_0 : decode cX2_init 0 = .ok (.aload_n 0, 1) := by decide +kernel
theorem dX2_init_1 : decode cX2_init 1 = .ok (.invokespecial 3, 3) := by decide +kernel
theorem dX2_init_4 : decode cX2_init 4 = .ok (.aload_n 0, 1) := by decide +kernel
theorem dX2_init_5 : decode cX2_init 5 = .ok (.sipush 3024, 3) := by decide +kernel
theorem dX2_init_8 : decode cX2_init 8 = .ok (.newarray .long, 2) := by decide +kernel
theorem dX2_init_10 : decode cX2_init 10 = .ok (.putfield 9, 3) := by decide +kernel
theorem dX2_init_13 : decode cX2_init 13 = .ok (.aload_n 0, 1) := by decide +kernel
theorem dX2_init_14 : decode cX2_init 14 = .ok (.iconst 5, 1) := by decide +kernel
theorem dX2_init_15 : decode cX2_init 15 = .ok (.newarray .int, 2) := by decide +kernel
theorem dX2_init_17 : decode cX2_init 17 = .ok (.putfield 15, 3) := by decide +kernel
theorem dX2_init_20 : decode cX2_init 20 = .ok (.return_, 1) := by decide +kernel
theorem dX2_at_0 : decode cX2_at 0 = .ok (.iload_n 1, 1) := by decide +kernel
theorem dX2_at_1 : decode cX2_at 1 = .ok (.ifCond .lt 19, 3) := by decide +kernel
theorem dX2_at_4 : decode cX2_at 4 = .ok (.iload_n 1, 1) := by decide +kernel
theorem dX2_at_5 : decode cX2_at 5 = .ok (.sipush 3024, 3) := by decide +kernel
theorem dX2_at_8 : decode cX2_at 8 = .ok (.if_icmp .ge 12, 3) := by decide +kernel
theorem dX2_at_11 : decode cX2_at 11 = .ok (.aload_n 0, 1) := by decide +kernel
theorem dX2_at_12 : decode cX2_at 12 = .ok (.getfield 9, 3) := by decide +kernel
theorem dX2_at_15 : decode cX2_at 15 = .ok (.iload_n 1, 1) := by decide +kernel
theorem dX2_at_16 : decode cX2_at 16 = .ok (.laload, 1) := by decide +kernel
theorem dX2_at_17 : decode cX2_at 17 = .ok (.goto 4, 3) := by decide +kernel
theorem dX2_at_20 : decode cX2_at 20 = .ok (.lconst 0, 1) := by decide +kernel
theorem dX2_at_21 : decode cX2_at 21 = .ok (.lreturn, 1) := by decide +kernel
set_option maxRecDepth 20000 in
theorem ggX2_clear_J7_fill_d0a16 : GoodIn wsX2_clear wsJ7_fill_d0a16 := goodIn_r _ [5] (by decide +kernel) (by decide +kernel)
set_option maxRecDepth 20000 in
theorem gX2_clear_J7_fill_d0a16 : GoodIn wsX2_clear (va_wsS RX2 19 yJ7_fill_d0a16 wsJ7_fill_d0a16) := goodIn_app (goodIn_of _ (by decide +kernel)) ggX2_clear_J7_fill_d0a16
theorem dX2_clear_0 : decode cX2_clear 0 = .ok (.aload_n 0, 1) := by decide +kernel
theorem dX2_clear_1 : decode cX2_clear 1 = .ok (.getfield 9, 3) := by decide +kernel
theorem dX2_clear_4 : decode cX2_clear 4 = .ok (.lconst 0, 1) := by decide +kernel
theorem dX2_clear_5 : decode cX2_clear 5 = .ok (.invokestatic 19, 3) := by decide +kernel
theorem dX2_clear_8 : decode cX2_clear 8 = .ok (.return_, 1) := by decide +kernel
theorem dX2_copy_0 : decode cX2_copy 0 = .ok (.aload_n 1, 1) := by decide +kernel
theorem dX2_copy_1 : decode cX2_copy 1 = .ok (.getfield 9, 3) := by decide +kernel
theorem dX2_copy_4 : decode cX2_copy 4 = .ok (.iconst 0, 1) := by decide +kernel
theorem dX2_copy_5 : decode cX2_copy 5 = .ok (.aload_n 0, 1) := by decide +kernel
theorem dX2_copy_6 : decode cX2_copy 6 = .ok (.getfield 9, 3) := by decide +kernel
theorem dX2_copy_9 : decode cX2_copy 9 = .ok (.iconst 0, 1) := by decide +kernel
theorem dX2_copy_10 : decode cX2_copy 10 = .ok (.sipush 3024, 3) := by decide +kernel
theorem dX2_copy_13 : decode cX2_copy 13 = .ok (.invokestatic 25, 3) := by decide +kernel
theorem dX2_copy_16 : decode cX2_copy 16 = .ok (.return_, 1) := by decide +kernel
theorem dX2_filled_0 : decode cX2_filled 0 = .ok (.iconst 0, 1) := by decide +kernel
theorem dX2_filled_1 : decode cX2_filled 1 = .ok (.istore_n 1, 1) := by decide +kernel
theorem dX2_filled_2 : decode cX2_filled 2 = .ok (.iconst 0, 1) := by decide +kernel
theorem dX2_filled_3 : decode cX2_filled 3 = .ok (.istore_n 2, 1) := by decide +kernel
theorem dX2_filled_4 : decode cX2_filled 4 = .ok (.iload_n 2, 1) := by decide +kernel
theorem dX2_filled_5 : decode cX2_filled 5 = .ok (.sipush 3024, 3) := by decide +kernel
theorem dX2_filled_8 : decode cX2_filled 8 = .ok (.if_icmp .ge 23, 3) := by decide +kernel
theorem dX2_filled_11 : decode cX2_filled 11 = .ok (.aload_n 0, 1) := by decide +kernel
theorem dX2_filled_12 : decode cX2_filled 12 = .ok (.getfield 9, 3) := by decide +kernel
theorem dX2_filled_15 : decode cX2_filled 15 = .ok (.iload_n 2, 1) := by decide +kernel
theorem dX2_filled_16 : decode cX2_filled 16 = .ok (.laload, 1) := by decide +kernel
theorem dX2_filled_17 : decode cX2_filled 17 = .ok (.lconst 0, 1) := by decide +kernel
theorem dX2_filled_18 : decode cX2_filled 18 = .ok (.lcmp, 1) := by decide +kernel
theorem dX2_filled_19 : decode cX2_filled 19 = .ok (.ifCond .eq 6, 3) := by decide +kernel
theorem dX2_filled_22 : decode cX2_filled 22 = .ok (.iinc 1 1, 3) := by decide +kernel
theorem dX2_filled_25 : decode cX2_filled 25 = .ok (.iinc 2 1, 3) := by decide +kernel
theorem dX2_filled_28 : decode cX2_filled 28 = .ok (.goto (-24), 3) := by decide +kernel
theorem dX2_filled_31 : decode cX2_filled 31 = .ok (.iload_n 1, 1) := by decide +kernel
theorem dX2_filled_32 : decode cX2_filled 32 = .ok (.ireturn, 1) := by decide +kernel
theorem dX2_isWithinLimit_0 : decode cX2_isWithinLimit 0 = .ok (.iconst 0, 1) := by decide +kernel
theorem dX2_isWithinLimit_1 : decode cX2_isWithinLimit 1 = .ok (.istore_n 1, 1) := by decide +kernel
theorem dX2_isWithinLimit_2 : decode cX2_isWithinLimit 2 = .ok (.iload_n 1, 1) := by decide +kernel
theorem dX2_isWithinLimit_3 : decode cX2_isWithinLimit 3 = .ok (.sipush 3024, 3) := by decide +kernel
theorem dX2_isWithinLimit_6 : decode cX2_isWithinLimit 6 = .ok (.if_icmp .ge 37, 3) := by decide +kernel
theorem dX2_isWithinLimit_9 : decode cX2_isWithinLimit 9 = .ok (.aload_n 0, 1) := by decide +kernel
theorem dX2_isWithinLimit_10 : decode cX2_isWithinLimit 10 = .ok (.getfield 9, 3) := by decide +kernel
theorem dX2_isWithinLimit_13 : decode cX2_isWithinLimit 13 = .ok (.iload_n 1, 1) := by decide +kernel
theorem dX2_isWithinLimit_14 : decode cX2_isWithinLimit 14 = .ok (.laload, 1) := by decide +kernel
theorem dX2_isWithinLimit_15 : decode cX2_isWithinLimit 15 = .ok (.ldc2_w 31, 3) := by decide +kernel
theorem dX2_isWithinLimit_18 : decode cX2_isWithinLimit 18 = .ok (.lcmp, 1) := by decide +kernel
theorem dX2_isWithinLimit_19 : decode cX2_isWithinLimit 19 = .ok (.ifCond .gt 16, 3) := by decide +kernel
theorem dX2_isWithinLimit_22 : decode cX2_isWithinLimit 22 = .ok (.aload_n 0, 1) := by decide +kernel
theorem dX2_isWithinLimit_23 : decode cX2_isWithinLimit 23 = .ok (.getfield 9, 3) := by decide +kernel
theorem dX2_isWithinLimit_26 : decode cX2_isWithinLimit 26 = .ok (.iload_n 1, 1) := by decide +kernel
theorem dX2_isWithinLimit_27 : decode cX2_isWithinLimit 27 = .ok (.laload, 1) := by decide +kernel
theorem dX2_isWithinLimit_28 : decode cX2_isWithinLimit 28 = .ok (.ldc2_w 33, 3) := by decide +kernel
theorem dX2_isWithinLimit_31 : decode cX2_isWithinLimit 31 = .ok (.lcmp, 1) := by decide +kernel
theorem dX2_isWithinLimit_32 : decode cX2_isWithinLimit 32 = .ok (.ifCond .ge 5, 3) := by decide +kernel
theorem dX2_isWithinLimit_35 : decode cX2_isWithinLimit 35 = .ok (.iconst 0, 1) := by decide +kernel
theorem dX2_isWithinLimit_36 : decode cX2_isWithinLimit 36 = .ok (.ireturn, 1) := by decide +kernel
theorem dX2_isWithinLimit_37 : decode cX2_isWithinLimit 37 = .ok (.iinc 1 1, 3) := by decide +kernel
theorem dX2_isWithinLimit_40 : decode cX2_isWithinLimit 40 = .ok (.goto (-38), 3) := by decide +kernel
theorem dX2_isWithinLimit_43 : decode cX2_isWithinLimit 43 = .ok (.iconst 1, 1) := by decide +kernel
theorem dX2_isWithinLimit_44 : decode cX2_isWithinLimit 44 = .ok (.ireturn, 1) := by decide +kernel
theorem dX2_addTimes_0 : decode cX2_addTimes 0 = .ok (.iconst 0, 1) := by decide +kernel
theorem dX2_addTimes_1 : decode cX2_addTimes 1 = .ok (.istore 5, 2) := by decide +kernel
theorem dX2_addTimes_3 : decode cX2_addTimes 3 = .ok (.iload 5, 2) := by decide +kernel
theorem dX2_addTimes_5 : decode cX2_addTimes 5 = .ok (.iload 4, 2) := by decide +kernel
theorem dX2_addTimes_7 : decode cX2_addTimes 7 = .ok (.if_icmp .ge 36, 3) := by decide +kernel
theorem dX2_addTimes_10 : decode cX2_addTimes 10 = .ok (.iload 5, 2) := by decide +kernel
theorem dX2_addTimes_12 : decode cX2_addTimes 12 = .ok (.sipush 3024, 3) := by decide +kernel
theorem dX2_addTimes_15 : decode cX2_addTimes 15 = .ok (.if_icmp .ge 28, 3) := by decide +kernel
theorem dX2_addTimes_18 : decode cX2_addTimes 18 = .ok (.aload_n 0, 1) := by decide +kernel
theorem dX2_addTimes_19 : decode cX2_addTimes 19 = .ok (.getfield 9, 3) := by decide +kernel
theorem dX2_addTimes_22 : decode cX2_addTimes 22 = .ok (.iload 5, 2) := by decide +kernel
theorem dX2_addTimes_24 : decode cX2_addTimes 24 = .ok (.dup2, 1) := by decide +kernel
theorem dX2_addTimes_25 : decode cX2_addTimes 25 = .ok (.laload, 1) := by decide +kernel
theorem dX2_addTimes_26 : decode cX2_addTimes 26 = .ok (.lload_n 1, 1) := by decide +kernel
theorem dX2_addTimes_27 : decode cX2_addTimes 27 = .ok (.aload_n 3, 1) := by decide +kernel
theorem dX2_addTimes_28 : decode cX2_addTimes 28 = .ok (.getfield 9, 3) := by decide +kernel
theorem dX2_addTimes_31 : decode cX2_addTimes 31 = .ok (.iload 5, 2) := by decide +kernel
theorem dX2_addTimes_33 : decode cX2_addTimes 33 = .ok (.laload, 1) := by decide +kernel
theorem dX2_addTimes_34 : decode cX2_addTimes 34 = .ok (.lmul, 1) := by decide +kernel
theorem dX2_addTimes_35 : decode cX2_addTimes 35 = .ok (.ladd, 1) := by decide +kernel
theorem dX2_addTimes_36 : decode cX2_addTimes 36 = .ok (.lastore, 1) := by decide +kernel
theorem dX2_addTimes_37 : decode cX2_addTimes 37 = .ok (.iinc 5 1, 3) := by decide +kernel
theorem dX2_addTimes_40 : decode cX2_addTimes 40 = .ok (.goto (-37), 3) := by decide +kernel
theorem dX2_addTimes_43 : decode cX2_addTimes 43 = .ok (.return_, 1) := by decide +kernel
set_option maxRecDepth 20000 in
theorem ggX2_becomeMonomial_X2_clear : GoodIn wsX2_becomeMonomial wsX2_clear := goodIn_r _ [7, 1, 8, 9, 10, 11, 15, 16] (by decide +kernel) (by decide +kernel)
set_option maxRecDepth 20000 in
theorem gX2_becomeMonomial_X2_clear : GoodIn wsX2_becomeMonomial (wsV RX2 35 RX2 yX2_clear wsX2_clear) := goodIn_app (goodIn_of _ (by decide +kernel)) ggX2_becomeMonomial_X2_clear
set_option maxRecDepth 20000 in
theorem ggX2_becomeMonomial_X5_exponentAt : GoodIn wsX2_becomeMonomial wsX5_exponentAt := goodIn_r _ [14] (by decide +kernel) (by decide +kernel)
set_option maxRecDepth 20000 in
theorem gX2_becomeMonomial_X5_exponentAt_n38 : GoodIn wsX2_becomeMonomial (wsX5_exponentAt) := ggX2_becomeMonomial_X5_exponentAt
theorem dX2_becomeMonomial_0 : decode cX2_becomeMonomial 0 = .ok (.aload_n 0, 1) := by decide +kernel
theorem dX2_becomeMonomial_1 : decode cX2_becomeMonomial 1 = .ok (.invokevirtual 35, 3) := by decide +kernel
theorem dX2_becomeMonomial_4 : decode cX2_becomeMonomial 4 = .ok (.iload_n 1, 1) := by decide +kernel
theorem dX2_becomeMonomial_5 : decode cX2_becomeMonomial 5 = .ok (.ifCond .lt 17, 3) := by decide +kernel
theorem dX2_becomeMonomial_8 : decode cX2_becomeMonomial 8 = .ok (.iload_n 1, 1) := by decide +kernel
theorem dX2_becomeMonomial_9 : decode cX2_becomeMonomial 9 = .ok (.sipush 3024, 3) := by decide +kernel
theorem dX2_becomeMonomial_12 : decode cX2_becomeMonomial 12 = .ok (.if_icmp .ge 10, 3) := by decide +kernel
theorem dX2_becomeMonomial_15 : decode cX2_becomeMonomial 15 = .ok (.aload_n 0, 1) := by decide +kernel
theorem dX2_becomeMonomial_16 : decode cX2_becomeMonomial 16 = .ok (.getfield 9, 3) := by decide +kernel
theorem dX2_becomeMonomial_19 : decode cX2_becomeMonomial 19 = .ok (.iload_n 1, 1) := by decide +kernel
theorem dX2_becomeMonomial_20 : decode cX2_becomeMonomial 20 = .ok (.lconst 1, 1) := by decide +kernel
theorem dX2_becomeMonomial_21 : decode cX2_becomeMonomial 21 = .ok (.lastore, 1) := by decide +kernel
theorem dX2_becomeMonomial_22 : decode cX2_becomeMonomial 22 = .ok (.iconst 1, 1) := by decide +kernel
theorem dX2_becomeMonomial_23 : decode cX2_becomeMonomial 23 = .ok (.istore_n 2, 1) := by decide +kernel
theorem dX2_becomeMonomial_24 : decode cX2_becomeMonomial 24 = .ok (.iload_n 2, 1) := by decide +kernel
theorem dX2_becomeMonomial_25 : decode cX2_becomeMonomial 25 = .ok (.iconst 4, 1) := by decide +kernel
theorem dX2_becomeMonomial_26 : decode cX2_becomeMonomial 26 = .ok (.if_icmp .gt 20, 3) := by decide +kernel
theorem dX2_becomeMonomial_29 : decode cX2_becomeMonomial 29 = .ok (.aload_n 0, 1) := by decide +kernel
theorem dX2_becomeMonomial_30 : decode cX2_becomeMonomial 30 = .ok (.getfield 15, 3) := by decide +kernel
theorem dX2_becomeMonomial_33 : decode cX2_becomeMonomial 33 = .ok (.iload_n 2, 1) := by decide +kernel
theorem dX2_becomeMonomial_34 : decode cX2_becomeMonomial 34 = .ok (.iload_n 1, 1) := by decide +kernel
theorem dX2_becomeMonomial_35 : decode cX2_becomeMonomial 35 = .ok (.iload_n 2, 1) := by decide +kernel
theorem dX2_becomeMonomial_36 : decode cX2_becomeMonomial 36 = .ok (.invokestatic 38, 3) := by decide +kernel
theorem dX2_becomeMonomial_39 : decode cX2_becomeMonomial 39 = .ok (.iastore, 1) := by decide +kernel
theorem dX2_becomeMonomial_40 : decode cX2_becomeMonomial 40 = .ok (.iinc 2 1, 3) := by decide +kernel
theorem dX2_becomeMonomial_43 : decode cX2_becomeMonomial 43 = .ok (.goto (-19), 3) := by decide +kernel
theorem dX2_becomeMonomial_46 : decode cX2_becomeMonomial 46 = .ok (.return_, 1) := by decide +kernel
set_option maxRecDepth 20000 in
theorem ggX2_measure_J7_fill_53178 : GoodIn wsX2_measure wsJ7_fill_53178 := goodIn_r _ [10] (by decide +kernel) (by decide +kernel)
set_option maxRecDepth 20000 in
theorem gX2_measure_J7_fill_53178 : GoodIn wsX2_measure (va_wsS RX2 42 yJ7_fill_53178 wsJ7_fill_53178) := goodIn_app (goodIn_of _ (by decide +kernel)) ggX2_measure_J7_fill_53178
set_option maxRecDepth 20000 in
theorem ggX2_measure_X5_exponentAt : GoodIn wsX2_measure wsX5_exponentAt := goodIn_r _ [13] (by decide +kernel) (by decide +kernel)
set_option maxRecDepth 20000 in
theorem gX2_measure_X5_exponentAt_n38 : GoodIn wsX2_measure (wsX5_exponentAt) := ggX2_measure_X5_exponentAt
theorem dX2_measure_0 : decode cX2_measure 0 = .ok (.aload_n 0, 1) := by decide +kernel
theorem dX2_measure_1 : decode cX2_measure 1 = .ok (.getfield 15, 3) := by decide +kernel
theorem dX2_measure_4 : decode cX2_measure 4 = .ok (.iconst 0, 1) := by decide +kernel
theorem dX2_measure_5 : decode cX2_measure 5 = .ok (.invokestatic 42, 3) := by decide +kernel
theorem dX2_measure_8 : decode cX2_measure 8 = .ok (.iconst 0, 1) := by decide +kernel
theorem dX2_measure_9 : decode cX2_measure 9 = .ok (.istore_n 1, 1) := by decide +kernel
theorem dX2_measure_10 : decode cX2_measure 10 = .ok (.iload_n 1, 1) := by decide +kernel
theorem dX2_measure_11 : decode cX2_measure 11 = .ok (.sipush 3024, 3) := by decide +kernel
theorem dX2_measure_14 : decode cX2_measure 14 = .ok (.if_icmp .ge 53, 3) := by decide +kernel
theorem dX2_measure_17 : decode cX2_measure 17 = .ok (.aload_n 0, 1) := by decide +kernel
theorem dX2_measure_18 : decode cX2_measure 18 = .ok (.getfield 9, 3) := by decide +kernel
theorem dX2_measure_21 : decode cX2_measure 21 = .ok (.iload_n 1, 1) := by decide +kernel
theorem dX2_measure_22 : decode cX2_measure 22 = .ok (.laload, 1) := by decide +kernel
theorem dX2_measure_23 : decode cX2_measure 23 = .ok (.lconst 0, 1) := by decide +kernel
theorem dX2_measure_24 : decode cX2_measure 24 = .ok (.lcmp, 1) := by decide +kernel
theorem dX2_measure_25 : decode cX2_measure 25 = .ok (.ifCond .eq 36, 3) := by decide +kernel
theorem dX2_measure_28 : decode cX2_measure 28 = .ok (.iconst 1, 1) := by decide +kernel
theorem dX2_measure_29 : decode cX2_measure 29 = .ok (.istore_n 2, 1) := by decide +kernel
theorem dX2_measure_30 : decode cX2_measure 30 = .ok (.iload_n 2, 1) := by decide +kernel
theorem dX2_measure_31 : decode cX2_measure 31 = .ok (.iconst 4, 1) := by decide +kernel
theorem dX2_measure_32 : decode cX2_measure 32 = .ok (.if_icmp .gt 29, 3) := by decide +kernel
theorem dX2_measure_35 : decode cX2_measure 35 = .ok (.aload_n 0, 1) := by decide +kernel
theorem dX2_measure_36 : decode cX2_measure 36 = .ok (.getfield 15, 3) := by decide +kernel
theorem dX2_measure_39 : decode cX2_measure 39 = .ok (.iload_n 2, 1) := by decide +kernel
theorem dX2_measure_40 : decode cX2_measure 40 = .ok (.aload_n 0, 1) := by decide +kernel
theorem dX2_measure_41 : decode cX2_measure 41 = .ok (.getfield 15, 3) := by decide +kernel
theorem dX2_measure_44 : decode cX2_measure 44 = .ok (.iload_n 2, 1) := by decide +kernel
theorem dX2_measure_45 : decode cX2_measure 45 = .ok (.iaload, 1) := by decide +kernel
theorem dX2_measure_46 : decode cX2_measure 46 = .ok (.iload_n 1, 1) := by decide +kernel
theorem dX2_measure_47 : decode cX2_measure 47 = .ok (.iload_n 2, 1) := by decide +kernel
theorem dX2_measure_48 : decode cX2_measure 48 = .ok (.invokestatic 38, 3) := by decide +kernel
theorem dX2_measure_51 : decode cX2_measure 51 = .ok (.invokestatic 45, 3) := by decide +kernel
theorem dX2_measure_54 : decode cX2_measure 54 = .ok (.iastore, 1) := by decide +kernel
theorem dX2_measure_55 : decode cX2_measure 55 = .ok (.iinc 2 1, 3) := by decide +kernel
theorem dX2_measure_58 : decode cX2_measure 58 = .ok (.goto (-28), 3) := by decide +kernel
theorem dX2_measure_61 : decode cX2_measure 61 = .ok (.iinc 1 1, 3) := by decide +kernel
theorem dX2_measure_64 : decode cX2_measure 64 = .ok (.goto (-54), 3) := by decide +kernel
theorem dX2_measure_67 : decode cX2_measure 67 = .ok (.return_, 1) := by decide +kernel
theorem dX2_degreeBound_0 : decode cX2_degreeBound 0 = .ok (.aload_n 0, 1) := by decide +kernel
theorem dX2_degreeBound_1 : decode cX2_degreeBound 1 = .ok (.getfield 15, 3) := by decide +kernel
theorem dX2_degreeBound_4 : decode cX2_degreeBound 4 = .ok (.iconst 1, 1) := by decide +kernel
theorem dX2_degreeBound_5 : decode cX2_degreeBound 5 = .ok (.iaload, 1) := by decide +kernel
theorem dX2_degreeBound_6 : decode cX2_degreeBound 6 = .ok (.aload_n 0, 1) := by decide +kernel
theorem dX2_degreeBound_7 : decode cX2_degreeBound 7 = .ok (.getfield 15, 3) := by decide +kernel
theorem dX2_degreeBound_10 : decode cX2_degreeBound 10 = .ok (.iconst 2, 1) := by decide +kernel
theorem dX2_degreeBound_11 : decode cX2_degreeBound 11 = .ok (.iaload, 1) := by decide +kernel
theorem dX2_degreeBound_12 : decode cX2_degreeBound 12 = .ok (.iadd, 1) := by decide +kernel
theorem dX2_degreeBound_13 : decode cX2_degreeBound 13 = .ok (.aload_n 0, 1) := by decide +kernel
theorem dX2_degreeBound_14 : decode cX2_degreeBound 14 = .ok (.getfield 15, 3) := by decide +kernel
theorem dX2_degreeBound_17 : decode cX2_degreeBound 17 = .ok (.iconst 3, 1) := by decide +kernel
theorem dX2_degreeBound_18 : decode cX2_degreeBound 18 = .ok (.iaload, 1) := by decide +kernel
theorem dX2_degreeBound_19 : decode cX2_degreeBound 19 = .ok (.iadd, 1) := by decide +kernel
theorem dX2_degreeBound_20 : decode cX2_degreeBound 20 = .ok (.aload_n 0, 1) := by decide +kernel
theorem dX2_degreeBound_21 : decode cX2_degreeBound 21 = .ok (.getfield 15, 3) := by decide +kernel
theorem dX2_degreeBound_24 : decode cX2_degreeBound 24 = .ok (.iconst 4, 1) := by decide +kernel
theorem dX2_degreeBound_25 : decode cX2_degreeBound 25 = .ok (.iaload, 1) := by decide +kernel
theorem dX2_degreeBound_26 : decode cX2_degreeBound 26 = .ok (.iadd, 1) := by decide +kernel
theorem dX2_degreeBound_27 : decode cX2_degreeBound 27 = .ok (.ireturn, 1) := by decide +kernel
theorem dX2_hasRoomFor_0 : decode cX2_hasRoomFor 0 = .ok (.iconst 1, 1) := by decide +kernel
theorem dX2_hasRoomFor_1 : decode cX2_hasRoomFor 1 = .ok (.istore_n 2, 1) := by decide +kernel
theorem dX2_hasRoomFor_2 : decode cX2_hasRoomFor 2 = .ok (.iload_n 2, 1) := by decide +kernel
theorem dX2_hasRoomFor_3 : decode cX2_hasRoomFor 3 = .ok (.iconst 4, 1) := by decide +kernel
theorem dX2_hasRoomFor_4 : decode cX2_hasRoomFor 4 = .ok (.if_icmp .gt 32, 3) := by decide +kernel
theorem dX2_hasRoomFor_7 : decode cX2_hasRoomFor 7 = .ok (.aload_n 0, 1) := by decide +kernel
theorem dX2_hasRoomFor_8 : decode cX2_hasRoomFor 8 = .ok (.getfield 15, 3) := by decide +kernel
theorem dX2_hasRoomFor_11 : decode cX2_hasRoomFor 11 = .ok (.iload_n 2, 1) := by decide +kernel
theorem dX2_hasRoomFor_12 : decode cX2_hasRoomFor 12 = .ok (.iaload, 1) := by decide +kernel
theorem dX2_hasRoomFor_13 : decode cX2_hasRoomFor 13 = .ok (.aload_n 1, 1) := by decide +kernel
theorem dX2_hasRoomFor_14 : decode cX2_hasRoomFor 14 = .ok (.getfield 15, 3) := by decide +kernel
theorem dX2_hasRoomFor_17 : decode cX2_hasRoomFor 17 = .ok (.iload_n 2, 1) := by decide +kernel
theorem dX2_hasRoomFor_18 : decode cX2_hasRoomFor 18 = .ok (.iaload, 1) := by decide +kernel
theorem dX2_hasRoomFor_19 : decode cX2_hasRoomFor 19 = .ok (.iadd, 1) := by decide +kernel
theorem dX2_hasRoomFor_20 : decode cX2_hasRoomFor 20 = .ok (.getstatic 50, 3) := by decide +kernel
theorem dX2_hasRoomFor_23 : decode cX2_hasRoomFor 23 = .ok (.iload_n 2, 1) := by decide +kernel
theorem dX2_hasRoomFor_24 : decode cX2_hasRoomFor 24 = .ok (.iaload, 1) := by decide +kernel
theorem dX2_hasRoomFor_25 : decode cX2_hasRoomFor 25 = .ok (.if_icmp .le 5, 3) := by decide +kernel
theorem dX2_hasRoomFor_28 : decode cX2_hasRoomFor 28 = .ok (.iconst 0, 1) := by decide +kernel
theorem dX2_hasRoomFor_29 : decode cX2_hasRoomFor 29 = .ok (.ireturn, 1) := by decide +kernel
theorem dX2_hasRoomFor_30 : decode cX2_hasRoomFor 30 = .ok (.iinc 2 1, 3) := by decide +kernel
theorem dX2_hasRoomFor_33 : decode cX2_hasRoomFor 33 = .ok (.goto (-31), 3) := by decide +kernel
theorem dX2_hasRoomFor_36 : decode cX2_hasRoomFor 36 = .ok (.iconst 1, 1) := by decide +kernel
theorem dX2_hasRoomFor_37 : decode cX2_hasRoomFor 37 = .ok (.ireturn, 1) := by decide +kernel
set_option maxRecDepth 20000 in
theorem ggX2_becomeProduct_X2_clear : GoodIn wsX2_becomeProduct wsX2_clear := goodIn_r _ [6, 1, 7, 8, 9, 10, 11, 12] (by decide +kernel) (by decide +kernel)
set_option maxRecDepth 20000 in
theorem gX2_becomeProduct_X2_clear : GoodIn wsX2_becomeProduct (wsV RX2 35 RX2 yX2_clear wsX2_clear) := goodIn_app (goodIn_of _ (by decide +kernel)) ggX2_becomeProduct_X2_clear
theorem dX2_becomeProduct_0 : decode cX2_becomeProduct 0 = .ok (.aload_n 0, 1) := by decide +kernel
theorem dX2_becomeProduct_1 : decode cX2_becomeProduct 1 = .ok (.invokevirtual 35, 3) := by decide +kernel
theorem dX2_becomeProduct_4 : decode cX2_becomeProduct 4 = .ok (.iconst 0, 1) := by decide +kernel
theorem dX2_becomeProduct_5 : decode cX2_becomeProduct 5 = .ok (.istore_n 3, 1) := by decide +kernel
theorem dX2_becomeProduct_6 : decode cX2_becomeProduct 6 = .ok (.iload_n 3, 1) := by decide +kernel
theorem dX2_becomeProduct_7 : decode cX2_becomeProduct 7 = .ok (.sipush 3024, 3) := by decide +kernel
theorem dX2_becomeProduct_10 : decode cX2_becomeProduct 10 = .ok (.if_icmp .ge 65, 3) := by decide +kernel
theorem dX2_becomeProduct_13 : decode cX2_becomeProduct 13 = .ok (.aload_n 2, 1) := by decide +kernel
theorem dX2_becomeProduct_14 : decode cX2_becomeProduct 14 = .ok (.getfield 9, 3) := by decide +kernel
theorem dX2_becomeProduct_17 : decode cX2_becomeProduct 17 = .ok (.iload_n 3, 1) := by decide +kernel
theorem dX2_becomeProduct_18 : decode cX2_becomeProduct 18 = .ok (.laload, 1) := by decide +kernel
theorem dX2_becomeProduct_19 : decode cX2_becomeProduct 19 = .ok (.lstore 4, 2) := by decide +kernel
theorem dX2_becomeProduct_21 : decode cX2_becomeProduct 21 = .ok (.lload 4, 2) := by decide +kernel
theorem dX2_becomeProduct_23 : decode cX2_becomeProduct 23 = .ok (.lconst 0, 1) := by decide +kernel
theorem dX2_becomeProduct_24 : decode cX2_becomeProduct 24 = .ok (.lcmp, 1) := by decide +kernel
theorem dX2_becomeProduct_25 : decode cX2_becomeProduct 25 = .ok (.ifCond .eq 44, 3) := by decide +kernel
theorem dX2_becomeProduct_28 : decode cX2_becomeProduct 28 = .ok (.iconst 0, 1) := by decide +kernel
theorem dX2_becomeProduct_29 : decode cX2_becomeProduct 29 = .ok (.istore 6, 2) := by decide +kernel
theorem dX2_becomeProduct_31 : decode cX2_becomeProduct 31 = .ok (.iload 6, 2) := by decide +kernel
theorem dX2_becomeProduct_33 : decode cX2_becomeProduct 33 = .ok (.sipush 3024, 3) := by decide +kernel
theorem dX2_becomeProduct_36 : decode cX2_becomeProduct 36 = .ok (.iload_n 3, 1) := by decide +kernel
theorem dX2_becomeProduct_37 : decode cX2_becomeProduct 37 = .ok (.isub, 1) := by decide +kernel
theorem dX2_becomeProduct_38 : decode cX2_becomeProduct 38 = .ok (.if_icmp .ge 31, 3) := by decide +kernel
theorem dX2_becomeProduct_41 : decode cX2_becomeProduct 41 = .ok (.aload_n 0, 1) := by decide +kernel
theorem dX2_becomeProduct_42 : decode cX2_becomeProduct 42 = .ok (.getfield 9, 3) := by decide +kernel
theorem dX2_becomeProduct_45 : decode cX2_becomeProduct 45 = .ok (.iload 6, 2) := by decide +kernel
theorem dX2_becomeProduct_47 : decode cX2_becomeProduct 47 = .ok (.iload_n 3, 1) := by decide +kernel
theorem dX2_becomeProduct_48 : decode cX2_becomeProduct 48 = .ok (.iadd, 1) := by decide +kernel
theorem dX2_becomeProduct_49 : decode cX2_becomeProduct 49 = .ok (.dup2, 1) := by decide +kernel
theorem dX2_becomeProduct_50 : decode cX2_becomeProduct 50 = .ok (.laload, 1) := by decide +kernel
theorem dX2_becomeProduct_51 : decode cX2_becomeProduct 51 = .ok (.lload 4, 2) := by decide +kernel
theorem dX2_becomeProduct_53 : decode cX2_becomeProduct 53 = .ok (.aload_n 1, 1) := by decide +kernel
theorem dX2_becomeProduct_54 : decode cX2_becomeProduct 54 = .ok (.getfield 9, 3) := by decide +kernel
theorem dX2_becomeProduct_57 : decode cX2_becomeProduct 57 = .ok (.iload 6, 2) := by decide +kernel
theorem dX2_becomeProduct_59 : decode cX2_becomeProduct 59 = .ok (.laload, 1) := by decide +kernel
theorem dX2_becomeProduct_60 : decode cX2_becomeProduct 60 = .ok (.lmul, 1) := by decide +kernel
theorem dX2_becomeProduct_61 : decode cX2_becomeProduct 61 = .ok (.ladd, 1) := by decide +kernel
theorem dX2_becomeProduct_62 : decode cX2_becomeProduct 62 = .ok (.lastore, 1) := by decide +kernel
theorem dX2_becomeProduct_63 : decode cX2_becomeProduct 63 = .ok (.iinc 6 1, 3) := by decide +kernel
theorem dX2_becomeProduct_66 : decode cX2_becomeProduct 66 = .ok (.goto (-35), 3) := by decide +kernel
theorem dX2_becomeProduct_69 : decode cX2_becomeProduct 69 = .ok (.iinc 3 1, 3) := by decide +kernel
theorem dX2_becomeProduct_72 : decode cX2_becomeProduct 72 = .ok (.goto (-66), 3) := by decide +kernel
theorem dX2_becomeProduct_75 : decode cX2_becomeProduct 75 = .ok (.return_, 1) := by decide +kernel
set_option maxRecDepth 20000 in
theorem ggX2_valueAt_X5_cellOf : GoodIn wsX2_valueAt wsX5_cellOf := goodIn_r _ [3, 4, 5, 2, 6] (by decide +kernel) (by decide +kernel)
set_option maxRecDepth 20000 in
theorem gX2_valueAt_X5_cellOf_n53 : GoodIn wsX2_valueAt (wsX5_cellOf) := ggX2_valueAt_X5_cellOf
set_option maxRecDepth 20000 in
theorem ggX2_valueAt_X2_valueOfLine : GoodIn wsX2_valueAt wsX2_valueOfLine := goodIn_r _ [11, 12, 13, 14, 10, 15, 16, 17, 18] (by decide +kernel) (by decide +kernel)
set_option maxRecDepth 20000 in
theorem gX2_valueAt_X2_valueOfLine : GoodIn wsX2_valueAt (wsV RX2 57 RX2 yX2_valueOfLine wsX2_valueOfLine) := goodIn_app (goodIn_of _ (by decide +kernel)) ggX2_valueAt_X2_valueOfLine
theorem dX2_valueAt_0 : decode cX2_valueAt 0 = .ok (.lconst 0, 1) := by decide +kernel
theorem dX2_valueAt_1 : decode cX2_valueAt 1 = .ok (.lstore 5, 2) := by decide +kernel
theorem dX2_valueAt_3 : decode cX2_valueAt 3 = .ok (.getstatic 50, 3) := by decide +kernel
theorem dX2_valueAt_6 : decode cX2_valueAt 6 = .ok (.iconst 4, 1) := by decide +kernel
theorem dX2_valueAt_7 : decode cX2_valueAt 7 = .ok (.iaload, 1) := by decide +kernel
theorem dX2_valueAt_8 : decode cX2_valueAt 8 = .ok (.istore 7, 2) := by decide +kernel
theorem dX2_valueAt_10 : decode cX2_valueAt 10 = .ok (.iload 7, 2) := by decide +kernel
theorem dX2_valueAt_12 : decode cX2_valueAt 12 = .ok (.ifCond .lt 95, 3) := by decide +kernel
theorem dX2_valueAt_15 : decode cX2_valueAt 15 = .ok (.lconst 0, 1) := by decide +kernel
theorem dX2_valueAt_16 : decode cX2_valueAt 16 = .ok (.lstore 8, 2) := by decide +kernel
theorem dX2_valueAt_18 : decode cX2_valueAt 18 = .ok (.getstatic 50, 3) := by decide +kernel
theorem dX2_valueAt_21 : decode cX2_valueAt 21 = .ok (.iconst 3, 1) := by decide +kernel
theorem dX2_valueAt_22 : decode cX2_valueAt 22 = .ok (.iaload, 1) := by decide +kernel
theorem dX2_valueAt_23 : decode cX2_valueAt 23 = .ok (.istore 10, 2) := by decide +kernel
theorem dX2_valueAt_25 : decode cX2_valueAt 25 = .ok (.iload 10, 2) := by decide +kernel
theorem dX2_valueAt_27 : decode cX2_valueAt 27 = .ok (.ifCond .lt 63, 3) := by decide +kernel
theorem dX2_valueAt_30 : decode cX2_valueAt 30 = .ok (.lconst 0, 1) := by decide +kernel
theorem dX2_valueAt_31 : decode cX2_valueAt 31 = .ok (.lstore 11, 2) := by decide +kernel
theorem dX2_valueAt_33 : decode cX2_valueAt 33 = .ok (.getstatic 50, 3) := by decide +kernel
theorem dX2_valueAt_36 : decode cX2_valueAt 36 = .ok (.iconst 2, 1) := by decide +kernel
theorem dX2_valueAt_37 : decode cX2_valueAt 37 = .ok (.iaload, 1) := by decide +kernel
theorem dX2_valueAt_38 : decode cX2_valueAt 38 = .ok (.istore 13, 2) := by decide +kernel
theorem dX2_valueAt_40 : decode cX2_valueAt 40 = .ok (.iload 13, 2) := by decide +kernel
theorem dX2_valueAt_42 : decode cX2_valueAt 42 = .ok (.ifCond .lt 32, 3) := by decide +kernel
theorem dX2_valueAt_45 : decode cX2_valueAt 45 = .ok (.lload 11, 2) := by decide +kernel
theorem dX2_valueAt_47 : decode cX2_valueAt 47 = .ok (.iload_n 2, 1) := by decide +kernel
theorem dX2_valueAt_48 : decode cX2_valueAt 48 = .ok (.i2l, 1) := by decide +kernel
theorem dX2_valueAt_49 : decode cX2_valueAt 49 = .ok (.lmul, 1) := by decide +kernel
theorem dX2_valueAt_50 : decode cX2_valueAt 50 = .ok (.aload_n 0, 1) := by decide +kernel
theorem dX2_valueAt_51 : decode cX2_valueAt 51 = .ok (.iconst 0, 1) := by decide +kernel
theorem dX2_valueAt_52 : decode cX2_valueAt 52 = .ok (.iload 13, 2) := by decide +kernel
theorem dX2_valueAt_54 : decode cX2_valueAt 54 = .ok (.iload 10, 2) := by decide +kernel
theorem dX2_valueAt_56 : decode cX2_valueAt 56 = .ok (.iload 7, 2) := by decide +kernel
theorem dX2_valueAt_58 : decode cX2_valueAt 58 = .ok (.invokestatic 53, 3) := by decide +kernel
theorem dX2_valueAt_61 : decode cX2_valueAt 61 = .ok (.iload_n 1, 1) := by decide +kernel
theorem dX2_valueAt_62 : decode cX2_valueAt 62 = .ok (.invokevirtual 57, 3) := by decide +kernel
theorem dX2_valueAt_65 : decode cX2_valueAt 65 = .ok (.ladd, 1) := by decide +kernel
theorem dX2_valueAt_66 : decode cX2_valueAt 66 = .ok (.lstore 11, 2) := by decide +kernel
theorem dX2_valueAt_68 : decode cX2_valueAt 68 = .ok (.iinc 13 (-1), 3) := by decide +kernel
theorem dX2_valueAt_71 : decode cX2_valueAt 71 = .ok (.goto (-31), 3) := by decide +kernel
theorem dX2_valueAt_74 : decode cX2_valueAt 74 = .ok (.lload 8, 2) := by decide +kernel
theorem dX2_valueAt_76 : decode cX2_valueAt 76 = .ok (.iload_n 3, 1) := by decide +kernel
theorem dX2_valueAt_77 : decode cX2_valueAt 77 = .ok (.i2l, 1) := by decide +kernel
theorem dX2_valueAt_78 : decode cX2_valueAt 78 = .ok (.lmul, 1) := by decide +kernel
theorem dX2_valueAt_79 : decode cX2_valueAt 79 = .ok (.lload 11, 2) := by decide +kernel
theorem dX2_valueAt_81 : decode cX2_valueAt 81 = .ok (.ladd, 1) := by decide +kernel
theorem dX2_valueAt_82 : decode cX2_valueAt 82 = .ok (.lstore 8, 2) := by decide +kernel
theorem dX2_valueAt_84 : decode cX2_valueAt 84 = .ok (.iinc 10 (-1), 3) := by decide +kernel
theorem dX2_valueAt_87 : decode cX2_valueAt 87 = .ok (.goto (-62), 3) := by decide +kernel
theorem dX2_valueAt_90 : decode cX2_valueAt 90 = .ok (.lload 5, 2) := by decide +kernel
theorem dX2_valueAt_92 : decode cX2_valueAt 92 = .ok (.iload 4, 2) := by decide +kernel
theorem dX2_valueAt_94 : decode cX2_valueAt 94 = .ok (.i2l, 1) := by decide +kernel
theorem dX2_valueAt_95 : decode cX2_valueAt 95 = .ok (.lmul, 1) := by decide +kernel
theorem dX2_valueAt_96 : decode cX2_valueAt 96 = .ok (.lload 8, 2) := by decide +kernel
theorem dX2_valueAt_98 : decode cX2_valueAt 98 = .ok (.ladd, 1) := by decide +kernel
theorem dX2_valueAt_99 : decode cX2_valueAt 99 = .ok (.lstore 5, 2) := by decide +kernel
theorem dX2_valueAt_101 : decode cX2_valueAt 101 = .ok (.iinc 7 (-1), 3) := by decide +kernel
theorem dX2_valueAt_104 : decode cX2_valueAt 104 = .ok (.goto (-94), 3) := by decide +kernel
theorem dX2_valueAt_107 : decode cX2_valueAt 107 = .ok (.lload 5, 2) := by decide +kernel
theorem dX2_valueAt_109 : decode cX2_valueAt 109 = .ok (.lreturn, 1) := by decide +kernel
set_option maxRecDepth 20000 in
theorem ggX2_valueOfLine_X2_at : GoodIn wsX2_valueOfLine wsX2_at := goodIn_r _ [5, 6, 7, 8] (by decide +kernel) (by decide +kernel)
set_option maxRecDepth 20000 in
theorem gX2_valueOfLine_X2_at : GoodIn wsX2_valueOfLine (wsV RX2 61 RX2 yX2_at wsX2_at) := goodIn_app (goodIn_of _ (by decide +kernel)) ggX2_valueOfLine_X2_at
theorem dX2_valueOfLine_0 : decode cX2_valueOfLine 0 = .ok (.lconst 0, 1) := by decide +kernel
theorem dX2_valueOfLine_1 : decode cX2_valueOfLine 1 = .ok (.lstore_n 3, 1) := by decide +kernel
theorem dX2_valueOfLine_2 : decode cX2_valueOfLine 2 = .ok (.getstatic 50, 3) := by decide +kernel
theorem dX2_valueOfLine_5 : decode cX2_valueOfLine 5 = .ok (.iconst 1, 1) := by decide +kernel
theorem dX2_valueOfLine_6 : decode cX2_valueOfLine 6 = .ok (.iaload, 1) := by decide +kernel
theorem dX2_valueOfLine_7 : decode cX2_valueOfLine 7 = .ok (.istore 5, 2) := by decide +kernel
theorem dX2_valueOfLine_9 : decode cX2_valueOfLine 9 = .ok (.iload 5, 2) := by decide +kernel
theorem dX2_valueOfLine_11 : decode cX2_valueOfLine 11 = .ok (.ifCond .lt 23, 3) := by decide +kernel
theorem dX2_valueOfLine_14 : decode cX2_valueOfLine 14 = .ok (.lload_n 3, 1) := by decide +kernel
theorem dX2_valueOfLine_15 : decode cX2_valueOfLine 15 = .ok (.iload_n 2, 1) := by decide +kernel
theorem dX2_valueOfLine_16 : decode cX2_valueOfLine 16 = .ok (.i2l, 1) := by decide +kernel
theorem dX2_valueOfLine_17 : decode cX2_valueOfLine 17 = .ok (.lmul, 1) := by decide +kernel
theorem dX2_valueOfLine_18 : decode cX2_valueOfLine 18 = .ok (.aload_n 0, 1) := by decide +kernel
theorem dX2_valueOfLine_19 : decode cX2_valueOfLine 19 = .ok (.iload_n 1, 1) := by decide +kernel
theorem dX2_valueOfLine_20 : decode cX2_valueOfLine 20 = .ok (.iload 5, 2) := by decide +kernel
theorem dX2_valueOfLine_22 : decode cX2_valueOfLine 22 = .ok (.iadd, 1) := by decide +kernel
theorem dX2_valueOfLine_23 : decode cX2_valueOfLine 23 = .ok (.invokevirtual 61, 3) := by decide +kernel
theorem dX2_valueOfLine_26 : decode cX2_valueOfLine 26 = .ok (.ladd, 1) := by decide +kernel
theorem dX2_valueOfLine_27 : decode cX2_valueOfLine 27 = .ok (.lstore_n 3, 1) := by decide +kernel
theorem dX2_valueOfLine_28 : decode cX2_valueOfLine 28 = .ok (.iinc 5 (-1), 3) := by decide +kernel
theorem dX2_valueOfLine_31 : decode cX2_valueOfLine 31 = .ok (.goto (-22), 3) := by decide +kernel
theorem dX2_valueOfLine_34 : decode cX2_valueOfLine 34 = .ok (.lload_n 3, 1) := by decide +kernel
theorem dX2_valueOfLine_35 : decode cX2_valueOfLine 35 = .ok (.lreturn, 1) := by decide +kernel
set_option maxRecDepth 20000 in
theorem ggX2_differ_X2_lowerDegree : GoodIn wsX2_differ wsX2_lowerDegree := goodIn_r _ [10, 1, 11, 12, 13, 9, 14, 2, 3, 4, 5, 15, 16, 17, 18, 19, 20, 21, 22, 23, 24, 25, 26, 27, 28, 29, 30, 31] (by decide +kernel) (by decide +kernel)
set_option maxRecDepth 20000 in
theorem gX2_differ_X2_lowerDegree : GoodIn wsX2_differ (wsV RX2 65 RX2 yX2_lowerDegree wsX2_lowerDegree) := goodIn_app (goodIn_of _ (by decide +kernel)) ggX2_differ_X2_lowerDegree
theorem dX2_differ_0 : decode cX2_differ 0 = .ok (.iload_n 1, 1) := by decide +kernel
theorem dX2_differ_1 : decode cX2_differ 1 = .ok (.iconst 1, 1) := by decide +kernel
theorem dX2_differ_2 : decode cX2_differ 2 = .ok (.if_icmp .lt 8, 3) := by decide +kernel
theorem dX2_differ_5 : decode cX2_differ 5 = .ok (.iload_n 1, 1) := by decide +kernel
theorem dX2_differ_6 : decode cX2_differ 6 = .ok (.iconst 4, 1) := by decide +kernel
theorem dX2_differ_7 : decode cX2_differ 7 = .ok (.if_icmp .lt 4, 3) := by decide +kernel
theorem dX2_differ_10 : decode cX2_differ 10 = .ok (.return_, 1) := by decide +kernel
theorem dX2_differ_11 : decode cX2_differ 11 = .ok (.iload_n 2, 1) := by decide +kernel
theorem dX2_differ_12 : decode cX2_differ 12 = .ok (.istore 4, 2) := by decide +kernel
theorem dX2_differ_14 : decode cX2_differ 14 = .ok (.iload 4, 2) := by decide +kernel
theorem dX2_differ_16 : decode cX2_differ 16 = .ok (.iload_n 3, 1) := by decide +kernel
theorem dX2_differ_17 : decode cX2_differ 17 = .ok (.if_icmp .gt 16, 3) := by decide +kernel
theorem dX2_differ_20 : decode cX2_differ 20 = .ok (.aload_n 0, 1) := by decide +kernel
theorem dX2_differ_21 : decode cX2_differ 21 = .ok (.iload_n 1, 1) := by decide +kernel
theorem dX2_differ_22 : decode cX2_differ 22 = .ok (.iload 4, 2) := by decide +kernel
theorem dX2_differ_24 : decode cX2_differ 24 = .ok (.invokevirtual 65, 3) := by decide +kernel
theorem dX2_differ_27 : decode cX2_differ 27 = .ok (.iinc 4 1, 3) := by decide +kernel
theorem dX2_differ_30 : decode cX2_differ 30 = .ok (.goto (-16), 3) := by decide +kernel
theorem dX2_differ_33 : decode cX2_differ 33 = .ok (.aload_n 0, 1) := by decide +kernel
theorem dX2_differ_34 : decode cX2_differ 34 = .ok (.getfield 15, 3) := by decide +kernel
theorem dX2_differ_37 : decode cX2_differ 37 = .ok (.iload_n 1, 1) := by decide +kernel
theorem dX2_differ_38 : decode cX2_differ 38 = .ok (.iaload, 1) := by decide +kernel
theorem dX2_differ_39 : decode cX2_differ 39 = .ok (.aload_n 0, 1) := by decide +kernel
theorem dX2_differ_40 : decode cX2_differ 40 = .ok (.getfield 15, 3) := by decide +kernel
theorem dX2_differ_43 : decode cX2_differ 43 = .ok (.iload_n 1, 1) := by decide +kernel
theorem dX2_differ_44 : decode cX2_differ 44 = .ok (.iconst 1, 1) := by decide +kernel
theorem dX2_differ_45 : decode cX2_differ 45 = .ok (.iadd, 1) := by decide +kernel
theorem dX2_differ_46 : decode cX2_differ 46 = .ok (.iaload, 1) := by decide +kernel
theorem dX2_differ_47 : decode cX2_differ 47 = .ok (.invokestatic 45, 3) := by decide +kernel
theorem dX2_differ_50 : decode cX2_differ 50 = .ok (.istore 4, 2) := by decide +kernel
theorem dX2_differ_52 : decode cX2_differ 52 = .ok (.aload_n 0, 1) := by decide +kernel
theorem dX2_differ_53 : decode cX2_differ 53 = .ok (.getfield 15, 3) := by decide +kernel
theorem dX2_differ_56 : decode cX2_differ 56 = .ok (.iload_n 1, 1) := by decide +kernel
theorem dX2_differ_57 : decode cX2_differ 57 = .ok (.iload 4, 2) := by decide +kernel
theorem dX2_differ_59 : decode cX2_differ 59 = .ok (.iconst 1, 1) := by decide +kernel
theorem dX2_differ_60 : decode cX2_differ 60 = .ok (.isub, 1) := by decide +kernel
theorem dX2_differ_61 : decode cX2_differ 61 = .ok (.iconst 0, 1) := by decide +kernel
theorem dX2_differ_62 : decode cX2_differ 62 = .ok (.invokestatic 45, 3) := by decide +kernel
theorem dX2_differ_65 : decode cX2_differ 65 = .ok (.iastore, 1) := by decide +kernel
theorem dX2_differ_66 : decode cX2_differ 66 = .ok (.aload_n 0, 1) := by decide +kernel
theorem dX2_differ_67 : decode cX2_differ 67 = .ok (.getfield 15, 3) := by decide +kernel
theorem dX2_differ_70 : decode cX2_differ 70 = .ok (.iload_n 1, 1) := by decide +kernel
theorem dX2_differ_71 : decode cX2_differ 71 = .ok (.iconst 1, 1) := by decide +kernel
theorem dX2_differ_72 : decode cX2_differ 72 = .ok (.iadd, 1) := by decide +kernel
theorem dX2_differ_73 : decode cX2_differ 73 = .ok (.aload_n 0, 1) := by decide +kernel
theorem dX2_differ_74 : decode cX2_differ 74 = .ok (.getfield 15, 3) := by decide +kernel
theorem dX2_differ_77 : decode cX2_differ 77 = .ok (.iload_n 1, 1) := by decide +kernel
theorem dX2_differ_78 : decode cX2_differ 78 = .ok (.iaload, 1) := by decide +kernel
theorem dX2_differ_79 : decode cX2_differ 79 = .ok (.iastore, 1) := by decide +kernel
theorem dX2_differ_80 : decode cX2_differ 80 = .ok (.return_, 1) := by decide +kernel
set_option maxRecDepth 20000 in
theorem ggX2_lowerDegree_X2_lowerLine : GoodIn wsX2_lowerDegree wsX2_lowerLine := goodIn_r _ [6, 1, 7, 8, 9, 10, 11, 12, 13, 14, 15, 5, 16, 17, 18, 19, 20, 21, 22, 23, 24, 25, 26, 27] (by decide +kernel) (by decide +kernel)
set_option maxRecDepth 20000 in
theorem gX2_lowerDegree_X2_lowerLine : GoodIn wsX2_lowerDegree (wsV RX2 72 RX2 yX2_lowerLine wsX2_lowerLine) := goodIn_app (goodIn_of _ (by decide +kernel)) ggX2_lowerDegree_X2_lowerLine
theorem dX2_lowerDegree_0 : decode cX2_lowerDegree 0 = .ok (.iload_n 1, 1) := by decide +kernel
theorem dX2_lowerDegree_1 : decode cX2_lowerDegree 1 = .ok (.iconst 1, 1) := by decide +kernel
theorem dX2_lowerDegree_2 : decode cX2_lowerDegree 2 = .ok (.if_icmp .ne 7, 3) := by decide +kernel
theorem dX2_lowerDegree_5 : decode cX2_lowerDegree 5 = .ok (.iconst 3, 1) := by decide +kernel
theorem dX2_lowerDegree_6 : decode cX2_lowerDegree 6 = .ok (.goto 4, 3) := by decide +kernel
theorem dX2_lowerDegree_9 : decode cX2_lowerDegree 9 = .ok (.iconst 1, 1) := by decide +kernel
theorem dX2_lowerDegree_10 : decode cX2_lowerDegree 10 = .ok (.istore_n 3, 1) := by decide +kernel
theorem dX2_lowerDegree_11 : decode cX2_lowerDegree 11 = .ok (.iload_n 1, 1) := by decide +kernel
theorem dX2_lowerDegree_12 : decode cX2_lowerDegree 12 = .ok (.iconst 3, 1) := by decide +kernel
theorem dX2_lowerDegree_13 : decode cX2_lowerDegree 13 = .ok (.if_icmp .ne 7, 3) := by decide +kernel
theorem dX2_lowerDegree_16 : decode cX2_lowerDegree 16 = .ok (.iconst 2, 1) := by decide +kernel
theorem dX2_lowerDegree_17 : decode cX2_lowerDegree 17 = .ok (.goto 4, 3) := by decide +kernel
theorem dX2_lowerDegree_20 : decode cX2_lowerDegree 20 = .ok (.iconst 4, 1) := by decide +kernel
theorem dX2_lowerDegree_21 : decode cX2_lowerDegree 21 = .ok (.istore 4, 2) := by decide +kernel
theorem dX2_lowerDegree_23 : decode cX2_lowerDegree 23 = .ok (.iconst 0, 1) := by decide +kernel
theorem dX2_lowerDegree_24 : decode cX2_lowerDegree 24 = .ok (.istore 5, 2) := by decide +kernel
theorem dX2_lowerDegree_26 : decode cX2_lowerDegree 26 = .ok (.iload 5, 2) := by decide +kernel
theorem dX2_lowerDegree_28 : decode cX2_lowerDegree 28 = .ok (.aload_n 0, 1) := by decide +kernel
theorem dX2_lowerDegree_29 : decode cX2_lowerDegree 29 = .ok (.getfield 15, 3) := by decide +kernel
theorem dX2_lowerDegree_32 : decode cX2_lowerDegree 32 = .ok (.iload_n 3, 1) := by decide +kernel
theorem dX2_lowerDegree_33 : decode cX2_lowerDegree 33 = .ok (.iaload, 1) := by decide +kernel
theorem dX2_lowerDegree_34 : decode cX2_lowerDegree 34 = .ok (.if_icmp .gt 60, 3) := by decide +kernel
theorem dX2_lowerDegree_37 : decode cX2_lowerDegree 37 = .ok (.iconst 0, 1) := by decide +kernel
theorem dX2_lowerDegree_38 : decode cX2_lowerDegree 38 = .ok (.istore 6, 2) := by decide +kernel
theorem dX2_lowerDegree_40 : decode cX2_lowerDegree 40 = .ok (.iload 6, 2) := by decide +kernel
theorem dX2_lowerDegree_42 : decode cX2_lowerDegree 42 = .ok (.aload_n 0, 1) := by decide +kernel
theorem dX2_lowerDegree_43 : decode cX2_lowerDegree 43 = .ok (.getfield 15, 3) := by decide +kernel
theorem dX2_lowerDegree_46 : decode cX2_lowerDegree 46 = .ok (.iload 4, 2) := by decide +kernel
theorem dX2_lowerDegree_48 : decode cX2_lowerDegree 48 = .ok (.iaload, 1) := by decide +kernel
theorem dX2_lowerDegree_49 : decode cX2_lowerDegree 49 = .ok (.if_icmp .gt 39, 3) := by decide +kernel
theorem dX2_lowerDegree_52 : decode cX2_lowerDegree 52 = .ok (.aload_n 0, 1) := by decide +kernel
theorem dX2_lowerDegree_53 : decode cX2_lowerDegree 53 = .ok (.iload_n 1, 1) := by decide +kernel
theorem dX2_lowerDegree_54 : decode cX2_lowerDegree 54 = .ok (.iload 5, 2) := by decide +kernel
theorem dX2_lowerDegree_56 : decode cX2_lowerDegree 56 = .ok (.getstatic 69, 3) := by decide +kernel
theorem dX2_lowerDegree_59 : decode cX2_lowerDegree 59 = .ok (.iload_n 3, 1) := by decide +kernel
theorem dX2_lowerDegree_60 : decode cX2_lowerDegree 60 = .ok (.iaload, 1) := by decide +kernel
theorem dX2_lowerDegree_61 : decode cX2_lowerDegree 61 = .ok (.imul, 1) := by decide +kernel
theorem dX2_lowerDegree_62 : decode cX2_lowerDegree 62 = .ok (.iload 6, 2) := by decide +kernel
theorem dX2_lowerDegree_64 : decode cX2_lowerDegree 64 = .ok (.getstatic 69, 3) := by decide +kernel
theorem dX2_lowerDegree_67 : decode cX2_lowerDegree 67 = .ok (.iload 4, 2) := by decide +kernel
theorem dX2_lowerDegree_69 : decode cX2_lowerDegree 69 = .ok (.iaload, 1) := by decide +kernel
theorem dX2_lowerDegree_70 : decode cX2_lowerDegree 70 = .ok (.imul, 1) := by decide +kernel
theorem dX2_lowerDegree_71 : decode cX2_lowerDegree 71 = .ok (.iadd, 1) := by decide +kernel
theorem dX2_lowerDegree_72 : decode cX2_lowerDegree 72 = .ok (.iload_n 2, 1) := by decide +kernel
theorem dX2_lowerDegree_73 : decode cX2_lowerDegree 73 = .ok (.iload 5, 2) := by decide +kernel
theorem dX2_lowerDegree_75 : decode cX2_lowerDegree 75 = .ok (.isub, 1) := by decide +kernel
theorem dX2_lowerDegree_76 : decode cX2_lowerDegree 76 = .ok (.iload 6, 2) := by decide +kernel
theorem dX2_lowerDegree_78 : decode cX2_lowerDegree 78 = .ok (.isub, 1) := by decide +kernel
theorem dX2_lowerDegree_79 : decode cX2_lowerDegree 79 = .ok (.invokevirtual 72, 3) := by decide +kernel
theorem dX2_lowerDegree_82 : decode cX2_lowerDegree 82 = .ok (.iinc 6 1, 3) := by decide +kernel
theorem dX2_lowerDegree_85 : decode cX2_lowerDegree 85 = .ok (.goto (-45), 3) := by decide +kernel
theorem dX2_lowerDegree_88 : decode cX2_lowerDegree 88 = .ok (.iinc 5 1, 3) := by decide +kernel
theorem dX2_lowerDegree_91 : decode cX2_lowerDegree 91 = .ok (.goto (-65), 3) := by decide +kernel
theorem dX2_lowerDegree_94 : decode cX2_lowerDegree 94 = .ok (.return_, 1) := by decide +kernel
set_option maxRecDepth 20000 in
theorem ggX2_lowerLine_X2_pairCell : GoodIn wsX2_lowerLine wsX2_pairCell := goodIn_r _ [12] (by decide +kernel) (by decide +kernel)
set_option maxRecDepth 20000 in
theorem gX2_lowerLine_X2_pairCell : GoodIn wsX2_lowerLine (va_wsS RX2 79 yX2_pairCell wsX2_pairCell) := goodIn_app (goodIn_of _ (by decide +kernel)) ggX2_lowerLine_X2_pairCell
set_option maxRecDepth 20000 in
theorem ggX2_lowerLine_X2_at : GoodIn wsX2_lowerLine wsX2_at := goodIn_r _ [16, 17, 22, 23] (by decide +kernel) (by decide +kernel)
set_option maxRecDepth 20000 in
theorem gX2_lowerLine_X2_at : GoodIn wsX2_lowerLine (wsV RX2 61 RX2 yX2_at wsX2_at) := goodIn_app (goodIn_of _ (by decide +kernel)) ggX2_lowerLine_X2_at
set_option maxRecDepth 20000 in
theorem ggX2_lowerLine_X2_put : GoodIn wsX2_lowerLine wsX2_put := goodIn_r _ [21, 17, 22, 23] (by decide +kernel) (by decide +kernel)
set_option maxRecDepth 20000 in
theorem gX2_lowerLine_X2_put : GoodIn wsX2_lowerLine (wsV RX2 82 RX2 yX2_put wsX2_put) := goodIn_app (goodIn_of _ (by decide +kernel)) ggX2_lowerLine_X2_put
theorem dX2_lowerLine_0 : decode cX2_lowerLine 0 = .ok (.iload_n 1, 1) := by decide +kernel
theorem dX2_lowerLine_1 : decode cX2_lowerLine 1 = .ok (.iconst 1, 1) := by decide +kernel
theorem dX2_lowerLine_2 : decode cX2_lowerLine 2 = .ok (.if_icmp .lt 8, 3) := by decide +kernel
theorem dX2_lowerLine_5 : decode cX2_lowerLine 5 = .ok (.iload_n 1, 1) := by decide +kernel
theorem dX2_lowerLine_6 : decode cX2_lowerLine 6 = .ok (.iconst 4, 1) := by decide +kernel
theorem dX2_lowerLine_7 : decode cX2_lowerLine 7 = .ok (.if_icmp .lt 4, 3) := by decide +kernel
theorem dX2_lowerLine_10 : decode cX2_lowerLine 10 = .ok (.return_, 1) := by decide +kernel
theorem dX2_lowerLine_11 : decode cX2_lowerLine 11 = .ok (.lconst 0, 1) := by decide +kernel
theorem dX2_lowerLine_12 : decode cX2_lowerLine 12 = .ok (.lstore 4, 2) := by decide +kernel
theorem dX2_lowerLine_14 : decode cX2_lowerLine 14 = .ok (.iload_n 3, 1) := by decide +kernel
theorem dX2_lowerLine_15 : decode cX2_lowerLine 15 = .ok (.iconst 1, 1) := by decide +kernel
theorem dX2_lowerLine_16 : decode cX2_lowerLine 16 = .ok (.isub, 1) := by decide +kernel
theorem dX2_lowerLine_17 : decode cX2_lowerLine 17 = .ok (.aload_n 0, 1) := by decide +kernel
theorem dX2_lowerLine_18 : decode cX2_lowerLine 18 = .ok (.getfield 15, 3) := by decide +kernel
theorem dX2_lowerLine_21 : decode cX2_lowerLine 21 = .ok (.iload_n 1, 1) := by decide +kernel
theorem dX2_lowerLine_22 : decode cX2_lowerLine 22 = .ok (.iaload, 1) := by decide +kernel
theorem dX2_lowerLine_23 : decode cX2_lowerLine 23 = .ok (.aload_n 0, 1) := by decide +kernel
theorem dX2_lowerLine_24 : decode cX2_lowerLine 24 = .ok (.getfield 15, 3) := by decide +kernel
theorem dX2_lowerLine_27 : decode cX2_lowerLine 27 = .ok (.iload_n 1, 1) := by decide +kernel
theorem dX2_lowerLine_28 : decode cX2_lowerLine 28 = .ok (.iconst 1, 1) := by decide +kernel
theorem dX2_lowerLine_29 : decode cX2_lowerLine 29 = .ok (.iadd, 1) := by decide +kernel
theorem dX2_lowerLine_30 : decode cX2_lowerLine 30 = .ok (.iaload, 1) := by decide +kernel
theorem dX2_lowerLine_31 : decode cX2_lowerLine 31 = .ok (.invokestatic 45, 3) := by decide +kernel
theorem dX2_lowerLine_34 : decode cX2_lowerLine 34 = .ok (.invokestatic 76, 3) := by decide +kernel
theorem dX2_lowerLine_37 : decode cX2_lowerLine 37 = .ok (.istore 6, 2) := by decide +kernel
theorem dX2_lowerLine_39 : decode cX2_lowerLine 39 = .ok (.iload 6, 2) := by decide +kernel
theorem dX2_lowerLine_41 : decode cX2_lowerLine 41 = .ok (.istore 7, 2) := by decide +kernel
theorem dX2_lowerLine_43 : decode cX2_lowerLine 43 = .ok (.iconst 2, 1) := by decide +kernel
theorem dX2_lowerLine_44 : decode cX2_lowerLine 44 = .ok (.iload 7, 2) := by decide +kernel
theorem dX2_lowerLine_46 : decode cX2_lowerLine 46 = .ok (.imul, 1) := by decide +kernel
theorem dX2_lowerLine_47 : decode cX2_lowerLine 47 = .ok (.iload_n 3, 1) := by decide +kernel
theorem dX2_lowerLine_48 : decode cX2_lowerLine 48 = .ok (.iconst 2, 1) := by decide +kernel
theorem dX2_lowerLine_49 : decode cX2_lowerLine 49 = .ok (.isub, 1) := by decide +kernel
theorem dX2_lowerLine_50 : decode cX2_lowerLine 50 = .ok (.if_icmp .lt 113, 3) := by decide +kernel
theorem dX2_lowerLine_53 : decode cX2_lowerLine 53 = .ok (.iload_n 1, 1) := by decide +kernel
theorem dX2_lowerLine_54 : decode cX2_lowerLine 54 = .ok (.iload_n 2, 1) := by decide +kernel
theorem dX2_lowerLine_55 : decode cX2_lowerLine 55 = .ok (.iload 7, 2) := by decide +kernel
theorem dX2_lowerLine_57 : decode cX2_lowerLine 57 = .ok (.iconst 1, 1) := by decide +kernel
theorem dX2_lowerLine_58 : decode cX2_lowerLine 58 = .ok (.iadd, 1) := by decide +kernel
theorem dX2_lowerLine_59 : decode cX2_lowerLine 59 = .ok (.iload_n 3, 1) := by decide +kernel
theorem dX2_lowerLine_60 : decode cX2_lowerLine 60 = .ok (.iload 7, 2) := by decide +kernel
theorem dX2_lowerLine_62 : decode cX2_lowerLine 62 = .ok (.isub, 1) := by decide +kernel
theorem dX2_lowerLine_63 : decode cX2_lowerLine 63 = .ok (.iconst 1, 1) := by decide +kernel
theorem dX2_lowerLine_64 : decode cX2_lowerLine 64 = .ok (.isub, 1) := by decide +kernel
theorem dX2_lowerLine_65 : decode cX2_lowerLine 65 = .ok (.invokestatic 79, 3) := by decide +kernel
theorem dX2_lowerLine_68 : decode cX2_lowerLine 68 = .ok (.istore 8, 2) := by decide +kernel
theorem dX2_lowerLine_70 : decode cX2_lowerLine 70 = .ok (.iload_n 1, 1) := by decide +kernel
theorem dX2_lowerLine_71 : decode cX2_lowerLine 71 = .ok (.iload_n 2, 1) := by decide +kernel
theorem dX2_lowerLine_72 : decode cX2_lowerLine 72 = .ok (.iload_n 3, 1) := by decide +kernel
theorem dX2_lowerLine_73 : decode cX2_lowerLine 73 = .ok (.iload 7, 2) := by decide +kernel
theorem dX2_lowerLine_75 : decode cX2_lowerLine 75 = .ok (.isub, 1) := by decide +kernel
theorem dX2_lowerLine_76 : decode cX2_lowerLine 76 = .ok (.iconst 1, 1) := by decide +kernel
theorem dX2_lowerLine_77 : decode cX2_lowerLine 77 = .ok (.isub, 1) := by decide +kernel
theorem dX2_lowerLine_78 : decode cX2_lowerLine 78 = .ok (.iload 7, 2) := by decide +kernel
theorem dX2_lowerLine_80 : decode cX2_lowerLine 80 = .ok (.iconst 1, 1) := by decide +kernel
theorem dX2_lowerLine_81 : decode cX2_lowerLine 81 = .ok (.iadd, 1) := by decide +kernel
theorem dX2_lowerLine_82 : decode cX2_lowerLine 82 = .ok (.invokestatic 79, 3) := by decide +kernel
theorem dX2_lowerLine_85 : decode cX2_lowerLine 85 = .ok (.istore 9, 2) := by decide +kernel
theorem dX2_lowerLine_87 : decode cX2_lowerLine 87 = .ok (.lload 4, 2) := by decide +kernel
theorem dX2_lowerLine_89 : decode cX2_lowerLine 89 = .ok (.aload_n 0, 1) := by decide +kernel
theorem dX2_lowerLine_90 : decode cX2_lowerLine 90 = .ok (.iload 8, 2) := by decide +kernel
theorem dX2_lowerLine_92 : decode cX2_lowerLine 92 = .ok (.invokevirtual 61, 3) := by decide +kernel
theorem dX2_lowerLine_95 : decode cX2_lowerLine 95 = .ok (.aload_n 0, 1) := by decide +kernel
theorem dX2_lowerLine_96 : decode cX2_lowerLine 96 = .ok (.iload 9, 2) := by decide +kernel
theorem dX2_lowerLine_98 : decode cX2_lowerLine 98 = .ok (.invokevirtual 61, 3) := by decide +kernel
theorem dX2_lowerLine_101 : decode cX2_lowerLine 101 = .ok (.lsub, 1) := by decide +kernel
theorem dX2_lowerLine_102 : decode cX2_lowerLine 102 = .ok (.ladd, 1) := by decide +kernel
theorem dX2_lowerLine_103 : decode cX2_lowerLine 103 = .ok (.lstore 4, 2) := by decide +kernel
theorem dX2_lowerLine_105 : decode cX2_lowerLine 105 = .ok (.aload_n 0, 1) := by decide +kernel
theorem dX2_lowerLine_106 : decode cX2_lowerLine 106 = .ok (.iload 8, 2) := by decide +kernel
theorem dX2_lowerLine_108 : decode cX2_lowerLine 108 = .ok (.lconst 0, 1) := by decide +kernel
theorem dX2_lowerLine_109 : decode cX2_lowerLine 109 = .ok (.invokevirtual 82, 3) := by decide +kernel
theorem dX2_lowerLine_112 : decode cX2_lowerLine 112 = .ok (.aload_n 0, 1) := by decide +kernel
theorem dX2_lowerLine_113 : decode cX2_lowerLine 113 = .ok (.iload 9, 2) := by decide +kernel
theorem dX2_lowerLine_115 : decode cX2_lowerLine 115 = .ok (.lconst 0, 1) := by decide +kernel
theorem dX2_lowerLine_116 : decode cX2_lowerLine 116 = .ok (.invokevirtual 82, 3) := by decide +kernel
theorem dX2_lowerLine_119 : decode cX2_lowerLine 119 = .ok (.aload_n 0, 1) := by decide +kernel
theorem dX2_lowerLine_120 : decode cX2_lowerLine 120 = .ok (.iload_n 1, 1) := by decide +kernel
theorem dX2_lowerLine_121 : decode cX2_lowerLine 121 = .ok (.iload_n 2, 1) := by decide +kernel
theorem dX2_lowerLine_122 : decode cX2_lowerLine 122 = .ok (.iload 7, 2) := by decide +kernel
theorem dX2_lowerLine_124 : decode cX2_lowerLine 124 = .ok (.iload_n 3, 1) := by decide +kernel
theorem dX2_lowerLine_125 : decode cX2_lowerLine 125 = .ok (.iconst 1, 1) := by decide +kernel
theorem dX2_lowerLine_126 : decode cX2_lowerLine 126 = .ok (.isub, 1) := by decide +kernel
theorem dX2_lowerLine_127 : decode cX2_lowerLine 127 = .ok (.iload 7, 2) := by decide +kernel
theorem dX2_lowerLine_129 : decode cX2_lowerLine 129 = .ok (.isub, 1) := by decide +kernel
theorem dX2_lowerLine_130 : decode cX2_lowerLine 130 = .ok (.invokestatic 79, 3) := by decide +kernel
theorem dX2_lowerLine_133 : decode cX2_lowerLine 133 = .ok (.lload 4, 2) := by decide +kernel
theorem dX2_lowerLine_135 : decode cX2_lowerLine 135 = .ok (.invokevirtual 82, 3) := by decide +kernel
theorem dX2_lowerLine_138 : decode cX2_lowerLine 138 = .ok (.aload_n 0, 1) := by decide +kernel
theorem dX2_lowerLine_139 : decode cX2_lowerLine 139 = .ok (.iload_n 1, 1) := by decide +kernel
theorem dX2_lowerLine_140 : decode cX2_lowerLine 140 = .ok (.iload_n 2, 1) := by decide +kernel
theorem dX2_lowerLine_141 : decode cX2_lowerLine 141 = .ok (.iload_n 3, 1) := by decide +kernel
theorem dX2_lowerLine_142 : decode cX2_lowerLine 142 = .ok (.iconst 1, 1) := by decide +kernel
theorem dX2_lowerLine_143 : decode cX2_lowerLine 143 = .ok (.isub, 1) := by decide +kernel
theorem dX2_lowerLine_144 : decode cX2_lowerLine 144 = .ok (.iload 7, 2) := by decide +kernel
theorem dX2_lowerLine_146 : decode cX2_lowerLine 146 = .ok (.isub, 1) := by decide +kernel
theorem dX2_lowerLine_147 : decode cX2_lowerLine 147 = .ok (.iload 7, 2) := by decide +kernel
theorem dX2_lowerLine_149 : decode cX2_lowerLine 149 = .ok (.invokestatic 79, 3) := by decide +kernel
theorem dX2_lowerLine_152 : decode cX2_lowerLine 152 = .ok (.lload 4, 2) := by decide +kernel
theorem dX2_lowerLine_154 : decode cX2_lowerLine 154 = .ok (.invokevirtual 82, 3) := by decide +kernel
theorem dX2_lowerLine_157 : decode cX2_lowerLine 157 = .ok (.iinc 7 (-1), 3) := by decide +kernel
theorem dX2_lowerLine_160 : decode cX2_lowerLine 160 = .ok (.goto (-117), 3) := by decide +kernel
theorem dX2_lowerLine_163 : decode cX2_lowerLine 163 = .ok (.return_, 1) := by decide +kernel
theorem dX2_pairCell_0 : decode cX2_pairCell 0 = .ok (.iload_n 0, 1) := by decide +kernel
theorem dX2_pairCell_1 : decode cX2_pairCell 1 = .ok (.iconst 1, 1) := by decide +kernel
theorem dX2_pairCell_2 : decode cX2_pairCell 2 = .ok (.if_icmp .lt 36, 3) := by decide +kernel
theorem dX2_pairCell_5 : decode cX2_pairCell 5 = .ok (.iload_n 0, 1) := by decide +kernel
theorem dX2_pairCell_6 : decode cX2_pairCell 6 = .ok (.iconst 4, 1) := by decide +kernel
theorem dX2_pairCell_7 : decode cX2_pairCell 7 = .ok (.if_icmp .ge 31, 3) := by decide +kernel
theorem dX2_pairCell_10 : decode cX2_pairCell 10 = .ok (.iload_n 2, 1) := by decide +kernel
theorem dX2_pairCell_11 : decode cX2_pairCell 11 = .ok (.ifCond .lt 27, 3) := by decide +kernel
theorem dX2_pairCell_14 : decode cX2_pairCell 14 = .ok (.iload_n 2, 1) := by decide +kernel
theorem dX2_pairCell_15 : decode cX2_pairCell 15 = .ok (.getstatic 50, 3) := by decide +kernel
theorem dX2_pairCell_18 : decode cX2_pairCell 18 = .ok (.iload_n 0, 1) := by decide +kernel
theorem dX2_pairCell_19 : decode cX2_pairCell 19 = .ok (.iaload, 1) := by decide +kernel
theorem dX2_pairCell_20 : decode cX2_pairCell 20 = .ok (.if_icmp .gt 18, 3) := by decide +kernel
theorem dX2_pairCell_23 : decode cX2_pairCell 23 = .ok (.iload_n 3, 1) := by decide +kernel
theorem dX2_pairCell_24 : decode cX2_pairCell 24 = .ok (.ifCond .lt 14, 3) := by decide +kernel
theorem dX2_pairCell_27 : decode cX2_pairCell 27 = .ok (.iload_n 3, 1) := by decide +kernel
theorem dX2_pairCell_28 : decode cX2_pairCell 28 = .ok (.getstatic 50, 3) := by decide +kernel
theorem dX2_pairCell_31 : decode cX2_pairCell 31 = .ok (.iload_n 0, 1) := by decide +kernel
theorem dX2_pairCell_32 : decode cX2_pairCell 32 = .ok (.iconst 1, 1) := by decide +kernel
theorem dX2_pairCell_33 : decode cX2_pairCell 33 = .ok (.iadd, 1) := by decide +kernel
theorem dX2_pairCell_34 : decode cX2_pairCell 34 = .ok (.iaload, 1) := by decide +kernel
theorem dX2_pairCell_35 : decode cX2_pairCell 35 = .ok (.if_icmp .le 5, 3) := by decide +kernel
theorem dX2_pairCell_38 : decode cX2_pairCell 38 = .ok (.iconst (-1), 1) := by decide +kernel
theorem dX2_pairCell_39 : decode cX2_pairCell 39 = .ok (.ireturn, 1) := by decide +kernel
theorem dX2_pairCell_40 : decode cX2_pairCell 40 = .ok (.iload_n 1, 1) := by decide +kernel
theorem dX2_pairCell_41 : decode cX2_pairCell 41 = .ok (.iload_n 2, 1) := by decide +kernel
theorem dX2_pairCell_42 : decode cX2_pairCell 42 = .ok (.getstatic 69, 3) := by decide +kernel
theorem dX2_pairCell_45 : decode cX2_pairCell 45 = .ok (.iload_n 0, 1) := by decide +kernel
theorem dX2_pairCell_46 : decode cX2_pairCell 46 = .ok (.iaload, 1) := by decide +kernel
theorem dX2_pairCell_47 : decode cX2_pairCell 47 = .ok (.imul, 1) := by decide +kernel
theorem dX2_pairCell_48 : decode cX2_pairCell 48 = .ok (.iadd, 1) := by decide +kernel
theorem dX2_pairCell_49 : decode cX2_pairCell 49 = .ok (.iload_n 3, 1) := by decide +kernel
theorem dX2_pairCell_50 : decode cX2_pairCell 50 = .ok (.getstatic 69, 3) := by decide +kernel
theorem dX2_pairCell_53 : decode cX2_pairCell 53 = .ok (.iload_n 0, 1) := by decide +kernel
theorem dX2_pairCell_54 : decode cX2_pairCell 54 = .ok (.iconst 1, 1) := by decide +kernel
theorem dX2_pairCell_55 : decode cX2_pairCell 55 = .ok (.iadd, 1) := by decide +kernel
theorem dX2_pairCell_56 : decode cX2_pairCell 56 = .ok (.iaload, 1) := by decide +kernel
theorem dX2_pairCell_57 : decode cX2_pairCell 57 = .ok (.imul, 1) := by decide +kernel
theorem dX2_pairCell_58 : decode cX2_pairCell 58 = .ok (.iadd, 1) := by decide +kernel
theorem dX2_pairCell_59 : decode cX2_pairCell 59 = .ok (.ireturn, 1) := by decide +kernel
theorem dX2_put_0 : decode cX2_put 0 = .ok (.iload_n 1, 1) := by decide +kernel
theorem dX2_put_1 : decode cX2_put 1 = .ok (.ifCond .lt 17, 3) := by decide +kernel
theorem dX2_put_4 : decode cX2_put 4 = .ok (.iload_n 1, 1) := by decide +kernel
theorem dX2_put_5 : decode cX2_put 5 = .ok (.sipush 3024, 3) := by decide +kernel
theorem dX2_put_8 : decode cX2_put 8 = .ok (.if_icmp .ge 10, 3) := by decide +kernel
theorem dX2_put_11 : decode cX2_put 11 = .ok (.aload_n 0, 1) := by decide +kernel
theorem dX2_put_12 : decode cX2_put 12 = .ok (.getfield 9, 3) := by decide +kernel
theorem dX2_put_15 : decode cX2_put 15 = .ok (.iload_n 1, 1) := by decide +kernel
theorem dX2_put_16 : decode cX2_put 16 = .ok (.lload_n 2, 1) := by decide +kernel
theorem dX2_put_17 : decode cX2_put 17 = .ok (.lastore, 1) := by decide +kernel
theorem dX2_put_18 : decode cX2_put 18 = .ok (.return_, 1) := by decide +kernel
set_option maxRecDepth 20000 in
theorem ggX3_init_X2_init : GoodIn wsX3_init wsX2_init := goodIn_r _ [14, 15, 2, 3, 16, 17, 18, 19, 30, 31] (by decide +kernel) (by decide +kernel)
set_option maxRecDepth 20000 in
theorem gX3_init_X2_init_n11 : GoodIn wsX3_init (wsX2_init) := ggX3_init_X2_init
set_option maxRecDepth 20000 in
theorem ggX3_init_X0_init : GoodIn wsX3_init wsX0_init := goodIn_r _ [22, 23, 2, 3, 24, 25, 26, 27, 28, 18, 29, 35, 36] (by decide +kernel) (by decide +kernel)
set_option maxRecDepth 20000 in
theorem gX3_init_X0_init : GoodIn wsX3_init (wsX0_init) := ggX3_init_X0_init
theorem dX3_init_0 : decode cX3_init 0 = .ok (.aload_n 0, 1) := by decide +kernel
theorem dX3_init_1 : decode cX3_init 1 = .ok (.invokespecial 3, 3) := by decide +kernel
theorem dX3_init_4 : decode cX3_init 4 = .ok (.aload_n 0, 1) := by decide +kernel
theorem dX3_init_5 : decode cX3_init 5 = .ok (.new 9, 3) := by decide +kernel
theorem dX3_init_8 : decode cX3_init 8 = .ok (.dup, 1) := by decide +kernel
theorem dX3_init_9 : decode cX3_init 9 = .ok (.invokespecial 11, 3) := by decide +kernel
theorem dX3_init_12 : decode cX3_init 12 = .ok (.putfield 12, 3) := by decide +kernel
theorem dX3_init_15 : decode cX3_init 15 = .ok (.aload_n 0, 1) := by decide +kernel
theorem dX3_init_16 : decode cX3_init 16 = .ok (.new 18, 3) := by decide +kernel
theorem dX3_init_19 : decode cX3_init 19 = .ok (.dup, 1) := by decide +kernel
theorem dX3_init_20 : decode cX3_init 20 = .ok (.sipush 3024, 3) := by decide +kernel
theorem dX3_init_23 : decode cX3_init 23 = .ok (.invokespecial 20, 3) := by decide +kernel
theorem dX3_init_26 : decode cX3_init 26 = .ok (.putfield 23, 3) := by decide +kernel
theorem dX3_init_29 : decode cX3_init 29 = .ok (.aload_n 0, 1) := by decide +kernel
theorem dX3_init_30 : decode cX3_init 30 = .ok (.iconst 0, 1) := by decide +kernel
theorem dX3_init_31 : decode cX3_init 31 = .ok (.putfield 27, 3) := by decide +kernel
theorem dX3_init_34 : decode cX3_init 34 = .ok (.return_, 1) := by decide +kernel
theorem dX3_forget_0 : decode cX3_forget 0 = .ok (.aload_n 0, 1) := by decide +kernel
theorem dX3_forget_1 : decode cX3_forget 1 = .ok (.iconst 0, 1) := by decide +kernel
theorem dX3_forget_2 : decode cX3_forget 2 = .ok (.putfield 27, 3) := by decide +kernel
theorem dX3_forget_5 : decode cX3_forget 5 = .ok (.return_, 1) := by decide +kernel
set_option maxRecDepth 20000 in
theorem ggX3_find_X2_copy : GoodIn wsX3_find wsX2_copy := goodIn_r _ [9, 10, 11, 12, 13, 14, 128, 129] (by decide +kernel) (by decide +kernel)
set_option maxRecDepth 20000 in
theorem gX3_find_X2_copy : GoodIn wsX3_find (wsV RX3 31 RX2 yX2_copy wsX2_copy) := goodIn_app (goodIn_of _ (by decide +kernel)) ggX3_find_X2_copy
set_option maxRecDepth 20000 in
theorem ggX3_find_X0_clear : GoodIn wsX3_find wsX0_clear := goodIn_r _ [19, 20, 130, 131] (by decide +kernel) (by decide +kernel)
set_option maxRecDepth 20000 in
theorem gX3_find_X0_clear : GoodIn wsX3_find (wsV RX3 35 RX0 yX0_clear wsX0_clear) := goodIn_app (goodIn_of _ (by decide +kernel)) ggX3_find_X0_clear
set_option maxRecDepth 20000 in
theorem ggX3_find_X2_at : GoodIn wsX3_find wsX2_at := goodIn_r _ [24, 10, 128, 129] (by decide +kernel) (by decide +kernel)
set_option maxRecDepth 20000 in
theorem gX3_find_X2_at : GoodIn wsX3_find (wsV RX3 38 RX2 yX2_at wsX2_at) := goodIn_app (goodIn_of _ (by decide +kernel)) ggX3_find_X2_at
set_option maxRecDepth 20000 in
theorem ggX3_find_X4_make : GoodIn wsX3_find wsX4_make := goodIn_r _ [29, 30, 31, 32, 33, 34, 35, 36, 37, 38, 39, 28, 40, 41, 42, 43, 44, 45, 46, 47, 48, 49, 50, 51, 52, 53, 54, 55, 56, 8, 57, 10, 58, 59, 60, 61, 62, 63, 64, 65, 66, 67, 68, 69, 70, 71, 72, 73, 74, 75, 76, 77, 78, 79, 80, 81, 82, 83, 84, 85, 86, 87, 88, 89, 22, 23, 24, 90, 91, 92, 93, 124, 125, 126, 127, 128, 129] (by decide +kernel) (by decide +kernel)
set_option maxRecDepth 20000 in
theorem gX3_find_X4_make : GoodIn wsX3_find (wsV RX3 42 RX4 yX4_make wsX4_make) := goodIn_app (goodIn_of _ (by decide +kernel)) ggX3_find_X4_make
set_option maxRecDepth 20000 in
theorem ggX3_find_X2_addTimes : GoodIn wsX3_find wsX2_addTimes := goodIn_r _ [97, 10, 128, 129] (by decide +kernel) (by decide +kernel)
set_option maxRecDepth 20000 in
theorem gX3_find_X2_addTimes : GoodIn wsX3_find (wsV RX3 50 RX2 yX2_addTimes wsX2_addTimes) := goodIn_app (goodIn_of _ (by decide +kernel)) ggX3_find_X2_addTimes
set_option maxRecDepth 20000 in
theorem ggX3_find_X1_becomeOfCode : GoodIn wsX3_find wsX1_becomeOfCode := goodIn_r _ [102, 103, 34, 35, 36, 104, 105, 101, 106, 132] (by decide +kernel) (by decide +kernel)
set_option maxRecDepth 20000 in
theorem gX3_find_X1_becomeOfCode : GoodIn wsX3_find (wsV RX3 54 RX1 yX1_becomeOfCode wsX1_becomeOfCode) := goodIn_app (goodIn_of _ (by decide +kernel)) ggX3_find_X1_becomeOfCode
set_option maxRecDepth 20000 in
theorem ggX3_find_X1_plainNumber : GoodIn wsX3_find wsX1_plainNumber := goodIn_r _ [110, 103, 111, 112, 113, 101, 114, 132] (by decide +kernel) (by decide +kernel)
set_option maxRecDepth 20000 in
theorem gX3_find_X1_plainNumber : GoodIn wsX3_find (wsV RX3 59 RX1 yX1_plainNumber wsX1_plainNumber) := goodIn_app (goodIn_of _ (by decide +kernel)) ggX3_find_X1_plainNumber
set_option maxRecDepth 20000 in
theorem ggX3_find_X0_put : GoodIn wsX3_find wsX0_put := goodIn_r _ [118, 20, 119, 120, 12, 13, 14, 130, 131] (by decide +kernel) (by decide +kernel)
set_option maxRecDepth 20000 in
theorem gX3_find_X0_put : GoodIn wsX3_find (wsV RX3 63 RX0 yX0_put wsX0_put) := goodIn_app (goodIn_of _ (by decide +kernel)) ggX3_find_X0_put
theorem dX3_find_0 : decode cX3_find 0 = .ok (.aload_n 0, 1) := by decide +kernel
theorem dX3_find_1 : decode cX3_find 1 = .ok (.getfield 27, 3) := by decide +kernel
theorem dX3_find_4 : decode cX3_find 4 = .ok (.ifCond .eq 4, 3) := by decide +kernel
theorem dX3_find_7 : decode cX3_find 7 = .ok (.return_, 1) := by decide +kernel
theorem dX3_find_8 : decode cX3_find 8 = .ok (.aload_n 0, 1) := by decide +kernel
theorem dX3_find_9 : decode cX3_find 9 = .ok (.getfield 12, 3) := by decide +kernel
theorem dX3_find_12 : decode cX3_find 12 = .ok (.aload_n 1, 1) := by decide +kernel
theorem dX3_find_13 : decode cX3_find 13 = .ok (.invokevirtual 31, 3) := by decide +kernel
theorem dX3_find_16 : decode cX3_find 16 = .ok (.aload_n 0, 1) := by decide +kernel
theorem dX3_find_17 : decode cX3_find 17 = .ok (.getfield 23, 3) := by decide +kernel
theorem dX3_find_20 : decode cX3_find 20 = .ok (.invokevirtual 35, 3) := by decide +kernel
theorem dX3_find_23 : decode cX3_find 23 = .ok (.sipush 3023, 3) := by decide +kernel
theorem dX3_find_26 : decode cX3_find 26 = .ok (.istore 4, 2) := by decide +kernel
theorem dX3_find_28 : decode cX3_find 28 = .ok (.iload 4, 2) := by decide +kernel
theorem dX3_find_30 : decode cX3_find 30 = .ok (.ifCond .lt 66, 3) := by decide +kernel
theorem dX3_find_33 : decode cX3_find 33 = .ok (.aload_n 0, 1) := by decide +kernel
theorem dX3_find_34 : decode cX3_find 34 = .ok (.getfield 12, 3) := by decide +kernel
theorem dX3_find_37 : decode cX3_find 37 = .ok (.iload 4, 2) := by decide +kernel
theorem dX3_find_39 : decode cX3_find 39 = .ok (.invokevirtual 38, 3) := by decide +kernel
theorem dX3_find_42 : decode cX3_find 42 = .ok (.lstore 5, 2) := by decide +kernel
theorem dX3_find_44 : decode cX3_find 44 = .ok (.lload 5, 2) := by decide +kernel
theorem dX3_find_46 : decode cX3_find 46 = .ok (.lconst 0, 1) := by decide +kernel
theorem dX3_find_47 : decode cX3_find 47 = .ok (.lcmp, 1) := by decide +kernel
theorem dX3_find_48 : decode cX3_find 48 = .ok (.ifCond .eq 42, 3) := by decide +kernel
theorem dX3_find_51 : decode cX3_find 51 = .ok (.aload_n 2, 1) := by decide +kernel
theorem dX3_find_52 : decode cX3_find 52 = .ok (.iload 4, 2) := by decide +kernel
theorem dX3_find_54 : decode cX3_find 54 = .ok (.invokevirtual 42, 3) := by decide +kernel
theorem dX3_find_57 : decode cX3_find 57 = .ok (.aload_n 0, 1) := by decide +kernel
theorem dX3_find_58 : decode cX3_find 58 = .ok (.getfield 12, 3) := by decide +kernel
theorem dX3_find_61 : decode cX3_find 61 = .ok (.lload 5, 2) := by decide +kernel
theorem dX3_find_63 : decode cX3_find 63 = .ok (.lneg, 1) := by decide +kernel
theorem dX3_find_64 : decode cX3_find 64 = .ok (.aload_n 2, 1) := by decide +kernel
theorem dX3_find_65 : decode cX3_find 65 = .ok (.getfield 47, 3) := by decide +kernel
theorem dX3_find_68 : decode cX3_find 68 = .ok (.iload 4, 2) := by decide +kernel
theorem dX3_find_70 : decode cX3_find 70 = .ok (.invokevirtual 50, 3) := by decide +kernel
theorem dX3_find_73 : decode cX3_find 73 = .ok (.aload_n 3, 1) := by decide +kernel
theorem dX3_find_74 : decode cX3_find 74 = .ok (.iload 4, 2) := by decide +kernel
theorem dX3_find_76 : decode cX3_find 76 = .ok (.invokevirtual 54, 3) := by decide +kernel
theorem dX3_find_79 : decode cX3_find 79 = .ok (.aload_n 0, 1) := by decide +kernel
theorem dX3_find_80 : decode cX3_find 80 = .ok (.getfield 23, 3) := by decide +kernel
theorem dX3_find_83 : decode cX3_find 83 = .ok (.aload_n 3, 1) := by decide +kernel
theorem dX3_find_84 : decode cX3_find 84 = .ok (.invokevirtual 59, 3) := by decide +kernel
theorem dX3_find_87 : decode cX3_find 87 = .ok (.invokevirtual 63, 3) := by decide +kernel
theorem dX3_find_90 : decode cX3_find 90 = .ok (.iinc 4 (-1), 3) := by decide +kernel
theorem dX3_find_93 : decode cX3_find 93 = .ok (.goto (-65), 3) := by decide +kernel
theorem dX3_find_96 : decode cX3_find 96 = .ok (.aload_n 0, 1) := by decide +kernel
theorem dX3_find_97 : decode cX3_find 97 = .ok (.iconst 1, 1) := by decide +kernel
theorem dX3_find_98 : decode cX3_find 98 = .ok (.putfield 27, 3) := by decide +kernel
theorem dX3_find_101 : decode cX3_find 101 = .ok (.return_, 1) := by decide +kernel
set_option maxRecDepth 20000 in
theorem ggX4_init_X2_init : GoodIn wsX4_init wsX2_init := goodIn_r _ [13, 14, 2, 3, 15, 16, 8, 17, 18, 19] (by decide +kernel) (by decide +kernel)
set_option maxRecDepth 20000 in
theorem gX4_init_X2_init_n11 : GoodIn wsX4_init (wsX2_init) := ggX4_init_X2_init
theorem dX4_init_0 : decode cX4_init 0 = .ok (.aload_n 0, 1) := by decide +kernel
theorem dX4_init_1 : decode cX4_init 1 = .ok (.invokespecial 3, 3) := by decide +kernel
theorem dX4_init_4 : decode cX4_init 4 = .ok (.aload_n 0, 1) := by decide +kernel
theorem dX4_init_5 : decode cX4_init 5 = .ok (.new 9, 3) := by decide +kernel
theorem dX4_init_8 : decode cX4_init 8 = .ok (.dup, 1) := by decide +kernel
theorem dX4_init_9 : decode cX4_init 9 = .ok (.invokespecial 11, 3) := by decide +kernel
theorem dX4_init_12 : decode cX4_init 12 = .ok (.putfield 12, 3) := by decide +kernel
theorem dX4_init_15 : decode cX4_init 15 = .ok (.aload_n 0, 1) := by decide +kernel
theorem dX4_init_16 : decode cX4_init 16 = .ok (.iconst 5, 1) := by decide +kernel
theorem dX4_init_17 : decode cX4_init 17 = .ok (.newarray .int, 2) := by decide +kernel
theorem dX4_init_19 : decode cX4_init 19 = .ok (.putfield 18, 3) := by decide +kernel
theorem dX4_init_22 : decode cX4_init 22 = .ok (.aload_n 0, 1) := by decide +kernel
theorem dX4_init_23 : decode cX4_init 23 = .ok (.bipush 6, 2) := by decide +kernel
theorem dX4_init_25 : decode cX4_init 25 = .ok (.newarray .int, 2) := by decide +kernel
theorem dX4_init_27 : decode cX4_init 27 = .ok (.putfield 22, 3) := by decide +kernel
theorem dX4_init_30 : decode cX4_init 30 = .ok (.aload_n 0, 1) := by decide +kernel
theorem dX4_init_31 : decode cX4_init 31 = .ok (.iconst (-1), 1) := by decide +kernel
theorem dX4_init_32 : decode cX4_init 32 = .ok (.putfield 25, 3) := by decide +kernel
theorem dX4_init_35 : decode cX4_init 35 = .ok (.return_, 1) := by decide +kernel
set_option maxRecDepth 20000 in
theorem ggX4_make_X5_exponentAt : GoodIn wsX4_make wsX5_exponentAt := goodIn_r _ [7] (by decide +kernel) (by decide +kernel)
set_option maxRecDepth 20000 in
theorem gX4_make_X5_exponentAt_n29 : GoodIn wsX4_make (wsX5_exponentAt) := ggX4_make_X5_exponentAt
set_option maxRecDepth 20000 in
theorem ggX4_make_X4_climb : GoodIn wsX4_make wsX4_climb := goodIn_r _ [12, 4, 13, 14, 15, 11, 16, 2, 17, 18, 19, 20, 71, 72, 73, 74] (by decide +kernel) (by decide +kernel)
set_option maxRecDepth 20000 in
theorem gX4_make_X4_climb : GoodIn wsX4_make (wsV RX4 33 RX4 yX4_climb wsX4_climb) := goodIn_app (goodIn_of _ (by decide +kernel)) ggX4_make_X4_climb
set_option maxRecDepth 20000 in
theorem ggX4_make_X5_cellOf : GoodIn wsX4_make wsX5_cellOf := goodIn_r _ [22, 23, 24, 6, 25] (by decide +kernel) (by decide +kernel)
set_option maxRecDepth 20000 in
theorem gX4_make_X5_cellOf_n37 : GoodIn wsX4_make (wsX5_cellOf) := ggX4_make_X5_cellOf
set_option maxRecDepth 20000 in
theorem ggX4_make_X2_becomeMonomial : GoodIn wsX4_make wsX2_becomeMonomial := goodIn_r _ [30, 31, 32, 33, 34, 35, 29, 36, 37, 38, 39, 40, 5, 6, 7, 75, 76] (by decide +kernel) (by decide +kernel)
set_option maxRecDepth 20000 in
theorem gX4_make_X2_becomeMonomial : GoodIn wsX4_make (wsV RX4 41 RX2 yX2_becomeMonomial wsX2_becomeMonomial) := goodIn_app (goodIn_of _ (by decide +kernel)) ggX4_make_X2_becomeMonomial
set_option maxRecDepth 20000 in
theorem ggX4_make_X2_differ : GoodIn wsX4_make wsX2_differ := goodIn_r _ [44, 32, 45, 46, 47, 48, 49, 50, 51, 29, 52, 53, 54, 55, 56, 57, 58, 59, 60, 61, 62, 63, 64, 65, 66, 31, 67, 68, 69, 70, 75, 76] (by decide +kernel) (by decide +kernel)
set_option maxRecDepth 20000 in
theorem gX4_make_X2_differ : GoodIn wsX4_make (wsV RX4 45 RX2 yX2_differ wsX2_differ) := goodIn_app (goodIn_of _ (by decide +kernel)) ggX4_make_X2_differ
theorem dX4_make_0 : decode cX4_make 0 = .ok (.iload_n 1, 1) := by decide +kernel
theorem dX4_make_1 : decode cX4_make 1 = .ok (.aload_n 0, 1) := by decide +kernel
theorem dX4_make_2 : decode cX4_make 2 = .ok (.getfield 25, 3) := by decide +kernel
theorem dX4_make_5 : decode cX4_make 5 = .ok (.if_icmp .ne 4, 3) := by decide +kernel
theorem dX4_make_8 : decode cX4_make 8 = .ok (.return_, 1) := by decide +kernel
theorem dX4_make_9 : decode cX4_make 9 = .ok (.aload_n 0, 1) := by decide +kernel
theorem dX4_make_10 : decode cX4_make 10 = .ok (.iload_n 1, 1) := by decide +kernel
theorem dX4_make_11 : decode cX4_make 11 = .ok (.putfield 25, 3) := by decide +kernel
theorem dX4_make_14 : decode cX4_make 14 = .ok (.iconst 1, 1) := by decide +kernel
theorem dX4_make_15 : decode cX4_make 15 = .ok (.istore_n 2, 1) := by decide +kernel
theorem dX4_make_16 : decode cX4_make 16 = .ok (.iload_n 2, 1) := by decide +kernel
theorem dX4_make_17 : decode cX4_make 17 = .ok (.iconst 4, 1) := by decide +kernel
theorem dX4_make_18 : decode cX4_make 18 = .ok (.if_icmp .gt 20, 3) := by decide +kernel
theorem dX4_make_21 : decode cX4_make 21 = .ok (.aload_n 0, 1) := by decide +kernel
theorem dX4_make_22 : decode cX4_make 22 = .ok (.getfield 18, 3) := by decide +kernel
theorem dX4_make_25 : decode cX4_make 25 = .ok (.iload_n 2, 1) := by decide +kernel
theorem dX4_make_26 : decode cX4_make 26 = .ok (.iload_n 1, 1) := by decide +kernel
theorem dX4_make_27 : decode cX4_make 27 = .ok (.iload_n 2, 1) := by decide +kernel
theorem dX4_make_28 : decode cX4_make 28 = .ok (.invokestatic 29, 3) := by decide +kernel
theorem dX4_make_31 : decode cX4_make 31 = .ok (.iastore, 1) := by decide +kernel
theorem dX4_make_32 : decode cX4_make 32 = .ok (.iinc 2 1, 3) := by decide +kernel
theorem dX4_make_35 : decode cX4_make 35 = .ok (.goto (-19), 3) := by decide +kernel
theorem dX4_make_38 : decode cX4_make 38 = .ok (.aload_n 0, 1) := by decide +kernel
theorem dX4_make_39 : decode cX4_make 39 = .ok (.invokevirtual 33, 3) := by decide +kernel
theorem dX4_make_42 : decode cX4_make 42 = .ok (.istore_n 2, 1) := by decide +kernel
theorem dX4_make_43 : decode cX4_make 43 = .ok (.aload_n 0, 1) := by decide +kernel
theorem dX4_make_44 : decode cX4_make 44 = .ok (.getfield 12, 3) := by decide +kernel
theorem dX4_make_47 : decode cX4_make 47 = .ok (.aload_n 0, 1) := by decide +kernel
theorem dX4_make_48 : decode cX4_make 48 = .ok (.getfield 18, 3) := by decide +kernel
theorem dX4_make_51 : decode cX4_make 51 = .ok (.iconst 1, 1) := by decide +kernel
theorem dX4_make_52 : decode cX4_make 52 = .ok (.iaload, 1) := by decide +kernel
theorem dX4_make_53 : decode cX4_make 53 = .ok (.aload_n 0, 1) := by decide +kernel
theorem dX4_make_54 : decode cX4_make 54 = .ok (.getfield 18, 3) := by decide +kernel
theorem dX4_make_57 : decode cX4_make 57 = .ok (.iconst 2, 1) := by decide +kernel
theorem dX4_make_58 : decode cX4_make 58 = .ok (.iaload, 1) := by decide +kernel
theorem dX4_make_59 : decode cX4_make 59 = .ok (.aload_n 0, 1) := by decide +kernel
theorem dX4_make_60 : decode cX4_make 60 = .ok (.getfield 18, 3) := by decide +kernel
theorem dX4_make_63 : decode cX4_make 63 = .ok (.iconst 3, 1) := by decide +kernel
theorem dX4_make_64 : decode cX4_make 64 = .ok (.iaload, 1) := by decide +kernel
theorem dX4_make_65 : decode cX4_make 65 = .ok (.aload_n 0, 1) := by decide +kernel
theorem dX4_make_66 : decode cX4_make 66 = .ok (.getfield 18, 3) := by decide +kernel
theorem dX4_make_69 : decode cX4_make 69 = .ok (.iconst 4, 1) := by decide +kernel
theorem dX4_make_70 : decode cX4_make 70 = .ok (.iaload, 1) := by decide +kernel
theorem dX4_make_71 : decode cX4_make 71 = .ok (.invokestatic 37, 3) := by decide +kernel
theorem dX4_make_74 : decode cX4_make 74 = .ok (.invokevirtual 41, 3) := by decide +kernel
theorem dX4_make_77 : decode cX4_make 77 = .ok (.aload_n 0, 1) := by decide +kernel
theorem dX4_make_78 : decode cX4_make 78 = .ok (.getfield 18, 3) := by decide +kernel
theorem dX4_make_81 : decode cX4_make 81 = .ok (.iconst 1, 1) := by decide +kernel
theorem dX4_make_82 : decode cX4_make 82 = .ok (.iaload, 1) := by decide +kernel
theorem dX4_make_83 : decode cX4_make 83 = .ok (.aload_n 0, 1) := by decide +kernel
theorem dX4_make_84 : decode cX4_make 84 = .ok (.getfield 18, 3) := by decide +kernel
theorem dX4_make_87 : decode cX4_make 87 = .ok (.iconst 2, 1) := by decide +kernel
theorem dX4_make_88 : decode cX4_make 88 = .ok (.iaload, 1) := by decide +kernel
theorem dX4_make_89 : decode cX4_make 89 = .ok (.iadd, 1) := by decide +kernel
theorem dX4_make_90 : decode cX4_make 90 = .ok (.aload_n 0, 1) := by decide +kernel
theorem dX4_make_91 : decode cX4_make 91 = .ok (.getfield 18, 3) := by decide +kernel
theorem dX4_make_94 : decode cX4_make 94 = .ok (.iconst 3, 1) := by decide +kernel
theorem dX4_make_95 : decode cX4_make 95 = .ok (.iaload, 1) := by decide +kernel
theorem dX4_make_96 : decode cX4_make 96 = .ok (.iadd, 1) := by decide +kernel
theorem dX4_make_97 : decode cX4_make 97 = .ok (.aload_n 0, 1) := by decide +kernel
theorem dX4_make_98 : decode cX4_make 98 = .ok (.getfield 18, 3) := by decide +kernel
theorem dX4_make_101 : decode cX4_make 101 = .ok (.iconst 4, 1) := by decide +kernel
theorem dX4_make_102 : decode cX4_make 102 = .ok (.iaload, 1) := by decide +kernel
theorem dX4_make_103 : decode cX4_make 103 = .ok (.iadd, 1) := by decide +kernel
theorem dX4_make_104 : decode cX4_make 104 = .ok (.istore_n 3, 1) := by decide +kernel
theorem dX4_make_105 : decode cX4_make 105 = .ok (.iload_n 2, 1) := by decide +kernel
theorem dX4_make_106 : decode cX4_make 106 = .ok (.iconst 1, 1) := by decide +kernel
theorem dX4_make_107 : decode cX4_make 107 = .ok (.isub, 1) := by decide +kernel
theorem dX4_make_108 : decode cX4_make 108 = .ok (.istore 4, 2) := by decide +kernel
theorem dX4_make_110 : decode cX4_make 110 = .ok (.iload 4, 2) := by decide +kernel
theorem dX4_make_112 : decode cX4_make 112 = .ok (.ifCond .lt 38, 3) := by decide +kernel
theorem dX4_make_115 : decode cX4_make 115 = .ok (.iload 4, 2) := by decide +kernel
theorem dX4_make_117 : decode cX4_make 117 = .ok (.aload_n 0, 1) := by decide +kernel
theorem dX4_make_118 : decode cX4_make 118 = .ok (.getfield 22, 3) := by decide +kernel
theorem dX4_make_121 : decode cX4_make 121 = .ok (.arraylength, 1) := by decide +kernel
theorem dX4_make_122 : decode cX4_make 122 = .ok (.if_icmp .ge 28, 3) := by decide +kernel
theorem dX4_make_125 : decode cX4_make 125 = .ok (.aload_n 0, 1) := by decide +kernel
theorem dX4_make_126 : decode cX4_make 126 = .ok (.getfield 12, 3) := by decide +kernel
theorem dX4_make_129 : decode cX4_make 129 = .ok (.aload_n 0, 1) := by decide +kernel
theorem dX4_make_130 : decode cX4_make 130 = .ok (.getfield 22, 3) := by decide +kernel
theorem dX4_make_133 : decode cX4_make 133 = .ok (.iload 4, 2) := by decide +kernel
theorem dX4_make_135 : decode cX4_make 135 = .ok (.iaload, 1) := by decide +kernel
theorem dX4_make_136 : decode cX4_make 136 = .ok (.iload_n 3, 1) := by decide +kernel
theorem dX4_make_137 : decode cX4_make 137 = .ok (.iload_n 3, 1) := by decide +kernel
theorem dX4_make_138 : decode cX4_make 138 = .ok (.invokevirtual 45, 3) := by decide +kernel
theorem dX4_make_141 : decode cX4_make 141 = .ok (.iinc 3 (-1), 3) := by decide +kernel
theorem dX4_make_144 : decode cX4_make 144 = .ok (.iinc 4 (-1), 3) := by decide +kernel
theorem dX4_make_147 : decode cX4_make 147 = .ok (.goto (-37), 3) := by decide +kernel
theorem dX4_make_150 : decode cX4_make 150 = .ok (.return_, 1) := by decide +kernel
set_option maxRecDepth 20000 in
theorem ggX4_climb_X4_firstRise : GoodIn wsX4_climb wsX4_firstRise := goodIn_r _ [6, 7, 12, 13, 14, 15] (by decide +kernel) (by decide +kernel)
set_option maxRecDepth 20000 in
theorem gX4_climb_X4_firstRise : GoodIn wsX4_climb (wsV RX4 49 RX4 yX4_firstRise wsX4_firstRise) := goodIn_app (goodIn_of _ (by decide +kernel)) ggX4_climb_X4_firstRise
set_option maxRecDepth 20000 in
theorem ggX4_climb_X4_exchangeAt : GoodIn wsX4_climb wsX4_exchangeAt := goodIn_r _ [11, 7, 12, 13, 14, 15] (by decide +kernel) (by decide +kernel)
set_option maxRecDepth 20000 in
theorem gX4_climb_X4_exchangeAt : GoodIn wsX4_climb (wsV RX4 52 RX4 yX4_exchangeAt wsX4_exchangeAt) := goodIn_app (goodIn_of _ (by decide +kernel)) ggX4_climb_X4_exchangeAt
theorem dX4_climb_0 : decode cX4_climb 0 = .ok (.iconst 0, 1) := by decide +kernel
theorem dX4_climb_1 : decode cX4_climb 1 = .ok (.istore_n 1, 1) := by decide +kernel
theorem dX4_climb_2 : decode cX4_climb 2 = .ok (.aload_n 0, 1) := by decide +kernel
theorem dX4_climb_3 : decode cX4_climb 3 = .ok (.invokevirtual 49, 3) := by decide +kernel
theorem dX4_climb_6 : decode cX4_climb 6 = .ok (.istore_n 2, 1) := by decide +kernel
theorem dX4_climb_7 : decode cX4_climb 7 = .ok (.iload_n 2, 1) := by decide +kernel
theorem dX4_climb_8 : decode cX4_climb 8 = .ok (.ifCond .le 35, 3) := by decide +kernel
theorem dX4_climb_11 : decode cX4_climb 11 = .ok (.iload_n 1, 1) := by decide +kernel
theorem dX4_climb_12 : decode cX4_climb 12 = .ok (.aload_n 0, 1) := by decide +kernel
theorem dX4_climb_13 : decode cX4_climb 13 = .ok (.getfield 22, 3) := by decide +kernel
theorem dX4_climb_16 : decode cX4_climb 16 = .ok (.arraylength, 1) := by decide +kernel
theorem dX4_climb_17 : decode cX4_climb 17 = .ok (.if_icmp .ge 26, 3) := by decide +kernel
theorem dX4_climb_20 : decode cX4_climb 20 = .ok (.aload_n 0, 1) := by decide +kernel
theorem dX4_climb_21 : decode cX4_climb 21 = .ok (.getfield 22, 3) := by decide +kernel
theorem dX4_climb_24 : decode cX4_climb 24 = .ok (.iload_n 1, 1) := by decide +kernel
theorem dX4_climb_25 : decode cX4_climb 25 = .ok (.iload_n 2, 1) := by decide +kernel
theorem dX4_climb_26 : decode cX4_climb 26 = .ok (.iastore, 1) := by decide +kernel
theorem dX4_climb_27 : decode cX4_climb 27 = .ok (.iinc 1 1, 3) := by decide +kernel
theorem dX4_climb_30 : decode cX4_climb 30 = .ok (.aload_n 0, 1) := by decide +kernel
theorem dX4_climb_31 : decode cX4_climb 31 = .ok (.iload_n 2, 1) := by decide +kernel
theorem dX4_climb_32 : decode cX4_climb 32 = .ok (.invokevirtual 52, 3) := by decide +kernel
theorem dX4_climb_35 : decode cX4_climb 35 = .ok (.aload_n 0, 1) := by decide +kernel
theorem dX4_climb_36 : decode cX4_climb 36 = .ok (.invokevirtual 49, 3) := by decide +kernel
theorem dX4_climb_39 : decode cX4_climb 39 = .ok (.istore_n 2, 1) := by decide +kernel
theorem dX4_climb_40 : decode cX4_climb 40 = .ok (.goto (-33), 3) := by decide +kernel
theorem dX4_climb_43 : decode cX4_climb 43 = .ok (.iload_n 1, 1) := by decide +kernel
theorem dX4_climb_44 : decode cX4_climb 44 = .ok (.ireturn, 1) := by decide +kernel
theorem dX4_firstRise_0 : decode cX4_firstRise 0 = .ok (.iconst 1, 1) := by decide +kernel
theorem dX4_firstRise_1 : decode cX4_firstRise 1 = .ok (.istore_n 1, 1) := by decide +kernel
theorem dX4_firstRise_2 : decode cX4_firstRise 2 = .ok (.iload_n 1, 1) := by decide +kernel
theorem dX4_firstRise_3 : decode cX4_firstRise 3 = .ok (.iconst 4, 1) := by decide +kernel
theorem dX4_firstRise_4 : decode cX4_firstRise 4 = .ok (.if_icmp .ge 28, 3) := by decide +kernel
theorem dX4_firstRise_7 : decode cX4_firstRise 7 = .ok (.aload_n 0, 1) := by decide +kernel
theorem dX4_firstRise_8 : decode cX4_firstRise 8 = .ok (.getfield 18, 3) := by decide +kernel
theorem dX4_firstRise_11 : decode cX4_firstRise 11 = .ok (.iload_n 1, 1) := by decide +kernel
theorem dX4_firstRise_12 : decode cX4_firstRise 12 = .ok (.iaload, 1) := by decide +kernel
theorem dX4_firstRise_13 : decode cX4_firstRise 13 = .ok (.aload_n 0, 1) := by decide +kernel
theorem dX4_firstRise_14 : decode cX4_firstRise 14 = .ok (.getfield 18, 3) := by decide +kernel
theorem dX4_firstRise_17 : decode cX4_firstRise 17 = .ok (.iload_n 1, 1) := by decide +kernel
theorem dX4_firstRise_18 : decode cX4_firstRise 18 = .ok (.iconst 1, 1) := by decide +kernel
theorem dX4_firstRise_19 : decode cX4_firstRise 19 = .ok (.iadd, 1) := by decide +kernel
theorem dX4_firstRise_20 : decode cX4_firstRise 20 = .ok (.iaload, 1) := by decide +kernel
theorem dX4_firstRise_21 : decode cX4_firstRise 21 = .ok (.if_icmp .ge 5, 3) := by decide +kernel
theorem dX4_firstRise_24 : decode cX4_firstRise 24 = .ok (.iload_n 1, 1) := by decide +kernel
theorem dX4_firstRise_25 : decode cX4_firstRise 25 = .ok (.ireturn, 1) := by decide +kernel
theorem dX4_firstRise_26 : decode cX4_firstRise 26 = .ok (.iinc 1 1, 3) := by decide +kernel
theorem dX4_firstRise_29 : decode cX4_firstRise 29 = .ok (.goto (-27), 3) := by decide +kernel
theorem dX4_firstRise_32 : decode cX4_firstRise 32 = .ok (.iconst 0, 1) := by decide +kernel
theorem dX4_firstRise_33 : decode cX4_firstRise 33 = .ok (.ireturn, 1) := by decide +kernel
theorem dX4_exchangeAt_0 : decode cX4_exchangeAt 0 = .ok (.iload_n 1, 1) := by decide +kernel
theorem dX4_exchangeAt_1 : decode cX4_exchangeAt 1 = .ok (.iconst 1, 1) := by decide +kernel
theorem dX4_exchangeAt_2 : decode cX4_exchangeAt 2 = .ok (.if_icmp .lt 8, 3) := by decide +kernel
theorem dX4_exchangeAt_5 : decode cX4_exchangeAt 5 = .ok (.iload_n 1, 1) := by decide +kernel
theorem dX4_exchangeAt_6 : decode cX4_exchangeAt 6 = .ok (.iconst 4, 1) := by decide +kernel
theorem dX4_exchangeAt_7 : decode cX4_exchangeAt 7 = .ok (.if_icmp .lt 4, 3) := by decide +kernel
theorem dX4_exchangeAt_10 : decode cX4_exchangeAt 10 = .ok (.return_, 1) := by decide +kernel
theorem dX4_exchangeAt_11 : decode cX4_exchangeAt 11 = .ok (.aload_n 0, 1) := by decide +kernel
theorem dX4_exchangeAt_12 : decode cX4_exchangeAt 12 = .ok (.getfield 18, 3) := by decide +kernel
theorem dX4_exchangeAt_15 : decode cX4_exchangeAt 15 = .ok (.iload_n 1, 1) := by decide +kernel
theorem dX4_exchangeAt_16 : decode cX4_exchangeAt 16 = .ok (.iaload, 1) := by decide +kernel
theorem dX4_exchangeAt_17 : decode cX4_exchangeAt 17 = .ok (.istore_n 2, 1) := by decide +kernel
theorem dX4_exchangeAt_18 : decode cX4_exchangeAt 18 = .ok (.aload_n 0, 1) := by decide +kernel
theorem dX4_exchangeAt_19 : decode cX4_exchangeAt 19 = .ok (.getfield 18, 3) := by decide +kernel
theorem dX4_exchangeAt_22 : decode cX4_exchangeAt 22 = .ok (.iload_n 1, 1) := by decide +kernel
theorem dX4_exchangeAt_23 : decode cX4_exchangeAt 23 = .ok (.aload_n 0, 1) := by decide +kernel
theorem dX4_exchangeAt_24 : decode cX4_exchangeAt 24 = .ok (.getfield 18, 3) := by decide +kernel
theorem dX4_exchangeAt_27 : decode cX4_exchangeAt 27 = .ok (.iload_n 1, 1) := by decide +kernel
theorem dX4_exchangeAt_28 : decode cX4_exchangeAt 28 = .ok (.iconst 1, 1) := by decide +kernel
theorem dX4_exchangeAt_29 : decode cX4_exchangeAt 29 = .ok (.iadd, 1) := by decide +kernel
theorem dX4_exchangeAt_30 : decode cX4_exchangeAt 30 = .ok (.iaload, 1) := by decide +kernel
theorem dX4_exchangeAt_31 : decode cX4_exchangeAt 31 = .ok (.iconst 1, 1) := by decide +kernel
theorem dX4_exchangeAt_32 : decode cX4_exchangeAt 32 = .ok (.iadd, 1) := by decide +kernel
theorem dX4_exchangeAt_33 : decode cX4_exchangeAt 33 = .ok (.iastore, 1) := by decide +kernel
theorem dX4_exchangeAt_34 : decode cX4_exchangeAt 34 = .ok (.aload_n 0, 1) := by decide +kernel
theorem dX4_exchangeAt_35 : decode cX4_exchangeAt 35 = .ok (.getfield 18, 3) := by decide +kernel
theorem dX4_exchangeAt_38 : decode cX4_exchangeAt 38 = .ok (.iload_n 1, 1) := by decide +kernel
theorem dX4_exchangeAt_39 : decode cX4_exchangeAt 39 = .ok (.iconst 1, 1) := by decide +kernel
theorem dX4_exchangeAt_40 : decode cX4_exchangeAt 40 = .ok (.iadd, 1) := by decide +kernel
theorem dX4_exchangeAt_41 : decode cX4_exchangeAt 41 = .ok (.iload_n 2, 1) := by decide +kernel
theorem dX4_exchangeAt_42 : decode cX4_exchangeAt 42 = .ok (.iastore, 1) := by decide +kernel
theorem dX4_exchangeAt_43 : decode cX4_exchangeAt 43 = .ok (.return_, 1) := by decide +kernel
end
section
set_option maxRecDepth 20000 in
theorem ggX5_init_X1_init : GoodIn wsX5_init wsX1_init := goodIn_r _ [28, 29, 2, 3, 30, 31, 65] (by decide +kernel) (by decide +kernel)
set_option maxRecDepth 20000 in
theorem gX5_init_X1_init_n11 : GoodIn wsX5_init (wsX1_init) := ggX5_init_X1_init
set_option maxRecDepth 20000 in
theorem ggX5_init_X0_init : GoodIn wsX5_init wsX0_init := goodIn_r _ [34, 35, 2, 3, 36, 37, 38, 39, 40, 30, 41, 74, 75] (by decide +kernel) (by decide +kernel)
set_option maxRecDepth 20000 in
theorem gX5_init_X0_init : GoodIn wsX5_init (wsX0_init) := ggX5_init_X0_init
set_option maxRecDepth 20000 in
theorem ggX5_init_X2_init : GoodIn wsX5_init wsX2_init := goodIn_r _ [43, 44, 2, 3, 45, 46, 30, 47, 76, 77] (by decide +kernel) (by decide +kernel)
set_option maxRecDepth 20000 in
theorem gX5_init_X2_init_n35 : GoodIn wsX5_init (wsX2_init) := ggX5_init_X2_init
set_option maxRecDepth 20000 in
theorem ggX5_init_X4_init : GoodIn wsX5_init wsX4_init := goodIn_r _ [49, 50, 2, 3, 51, 15, 16, 52, 30, 53, 54, 55, 42, 43, 44, 45, 46, 47, 76, 77, 78, 79, 80, 81] (by decide +kernel) (by decide +kernel)
set_option maxRecDepth 20000 in
theorem gX5_init_X4_init_n45 : GoodIn wsX5_init (wsX4_init) := ggX5_init_X4_init
set_option maxRecDepth 20000 in
theorem ggX5_init_X3_init : GoodIn wsX5_init wsX3_init := goodIn_r _ [57, 58, 2, 3, 59, 15, 16, 60, 61, 11, 12, 62, 63, 42, 43, 44, 45, 46, 30, 47, 64, 33, 34, 35, 36, 37, 38, 39, 40, 41, 76, 77, 82, 83, 84, 74, 75] (by decide +kernel) (by decide +kernel)
set_option maxRecDepth 20000 in
theorem gX5_init_X3_init_n52 : GoodIn wsX5_init (wsX3_init) := ggX5_init_X3_init
theorem dX5_init_0 : decode cX5_init 0 = .ok (.aload_n 0, 1) := by decide +kernel
theorem dX5_init_1 : decode cX5_init 1 = .ok (.invokespecial 3, 3) := by decide +kernel
theorem dX5_init_4 : decode cX5_init 4 = .ok (.aload_n 0, 1) := by decide +kernel
theorem dX5_init_5 : decode cX5_init 5 = .ok (.new 9, 3) := by decide +kernel
theorem dX5_init_8 : decode cX5_init 8 = .ok (.dup, 1) := by decide +kernel
theorem dX5_init_9 : decode cX5_init 9 = .ok (.invokespecial 11, 3) := by decide +kernel
theorem dX5_init_12 : decode cX5_init 12 = .ok (.putfield 12, 3) := by decide +kernel
theorem dX5_init_15 : decode cX5_init 15 = .ok (.aload_n 0, 1) := by decide +kernel
theorem dX5_init_16 : decode cX5_init 16 = .ok (.new 9, 3) := by decide +kernel
theorem dX5_init_19 : decode cX5_init 19 = .ok (.dup, 1) := by decide +kernel
theorem dX5_init_20 : decode cX5_init 20 = .ok (.invokespecial 11, 3) := by decide +kernel
theorem dX5_init_23 : decode cX5_init 23 = .ok (.putfield 18, 3) := by decide +kernel
theorem dX5_init_26 : decode cX5_init 26 = .ok (.aload_n 0, 1) := by decide +kernel
theorem dX5_init_27 : decode cX5_init 27 = .ok (.new 9, 3) := by decide +kernel
theorem dX5_init_30 : decode cX5_init 30 = .ok (.dup, 1) := by decide +kernel
theorem dX5_init_31 : decode cX5_init 31 = .ok (.invokespecial 11, 3) := by decide +kernel
theorem dX5_init_34 : decode cX5_init 34 = .ok (.putfield 21, 3) := by decide +kernel
theorem dX5_init_37 : decode cX5_init 37 = .ok (.aload_n 0, 1) := by decide +kernel
theorem dX5_init_38 : decode cX5_init 38 = .ok (.new 24, 3) := by decide +kernel
theorem dX5_init_41 : decode cX5_init 41 = .ok (.dup, 1) := by decide +kernel
theorem dX5_init_42 : decode cX5_init 42 = .ok (.bipush 32, 2) := by decide +kernel
theorem dX5_init_44 : decode cX5_init 44 = .ok (.invokespecial 26, 3) := by decide +kernel
theorem dX5_init_47 : decode cX5_init 47 = .ok (.putfield 29, 3) := by decide +kernel
theorem dX5_init_50 : decode cX5_init 50 = .ok (.aload_n 0, 1) := by decide +kernel
theorem dX5_init_51 : decode cX5_init 51 = .ok (.new 33, 3) := by decide +kernel
theorem dX5_init_54 : decode cX5_init 54 = .ok (.dup, 1) := by decide +kernel
theorem dX5_init_55 : decode cX5_init 55 = .ok (.invokespecial 35, 3) := by decide +kernel
theorem dX5_init_58 : decode cX5_init 58 = .ok (.putfield 36, 3) := by decide +kernel
theorem dX5_init_61 : decode cX5_init 61 = .ok (.aload_n 0, 1) := by decide +kernel
theorem dX5_init_62 : decode cX5_init 62 = .ok (.new 33, 3) := by decide +kernel
theorem dX5_init_65 : decode cX5_init 65 = .ok (.dup, 1) := by decide +kernel
theorem dX5_init_66 : decode cX5_init 66 = .ok (.invokespecial 35, 3) := by decide +kernel
theorem dX5_init_69 : decode cX5_init 69 = .ok (.putfield 40, 3) := by decide +kernel
theorem dX5_init_72 : decode cX5_init 72 = .ok (.aload_n 0, 1) := by decide +kernel
theorem dX5_init_73 : decode cX5_init 73 = .ok (.new 43, 3) := by decide +kernel
theorem dX5_init_76 : decode cX5_init 76 = .ok (.dup, 1) := by decide +kernel
theorem dX5_init_77 : decode cX5_init 77 = .ok (.invokespecial 45, 3) := by decide +kernel
theorem dX5_init_80 : decode cX5_init 80 = .ok (.putfield 46, 3) := by decide +kernel
theorem dX5_init_83 : decode cX5_init 83 = .ok (.aload_n 0, 1) := by decide +kernel
theorem dX5_init_84 : decode cX5_init 84 = .ok (.new 50, 3) := by decide +kernel
theorem dX5_init_87 : decode cX5_init 87 = .ok (.dup, 1) := by decide +kernel
theorem dX5_init_88 : decode cX5_init 88 = .ok (.invokespecial 52, 3) := by decide +kernel
theorem dX5_init_91 : decode cX5_init 91 = .ok (.putfield 53, 3) := by decide +kernel
theorem dX5_init_94 : decode cX5_init 94 = .ok (.return_, 1) := by decide +kernel
set_option maxRecDepth 20000 in
theorem ggX5_plain_X1_read : GoodIn wsX5_plain wsX1_read := goodIn_r _ [6, 7, 8, 9, 10, 11, 5, 12, 29] (by decide +kernel) (by decide +kernel)
set_option maxRecDepth 20000 in
theorem gX5_plain_X1_read : GoodIn wsX5_plain (wsV RX5 57 RX1 yX1_read wsX1_read) := goodIn_app (goodIn_of _ (by decide +kernel)) ggX5_plain_X1_read
set_option maxRecDepth 20000 in
theorem ggX5_plain_X1_plainNumber : GoodIn wsX5_plain wsX1_plainNumber := goodIn_r _ [16, 8, 17, 18, 19, 5, 20, 29] (by decide +kernel) (by decide +kernel)
set_option maxRecDepth 20000 in
theorem gX5_plain_X1_plainNumber : GoodIn wsX5_plain (wsV RX5 61 RX1 yX1_plainNumber wsX1_plainNumber) := goodIn_app (goodIn_of _ (by decide +kernel)) ggX5_plain_X1_plainNumber
theorem dX5_plain_0 : decode cX5_plain 0 = .ok (.aload_n 0, 1) := by decide +kernel
theorem dX5_plain_1 : decode cX5_plain 1 = .ok (.getfield 12, 3) := by decide +kernel
theorem dX5_plain_4 : decode cX5_plain 4 = .ok (.iload_n 1, 1) := by decide +kernel
theorem dX5_plain_5 : decode cX5_plain 5 = .ok (.invokevirtual 57, 3) := by decide +kernel
theorem dX5_plain_8 : decode cX5_plain 8 = .ok (.ifCond .eq 13, 3) := by decide +kernel
theorem dX5_plain_11 : decode cX5_plain 11 = .ok (.aload_n 0, 1) := by decide +kernel
theorem dX5_plain_12 : decode cX5_plain 12 = .ok (.getfield 12, 3) := by decide +kernel
theorem dX5_plain_15 : decode cX5_plain 15 = .ok (.invokevirtual 61, 3) := by decide +kernel
theorem dX5_plain_18 : decode cX5_plain 18 = .ok (.goto 5, 3) := by decide +kernel
theorem dX5_plain_21 : decode cX5_plain 21 = .ok (.bipush (-2), 2) := by decide +kernel
theorem dX5_plain_23 : decode cX5_plain 23 = .ok (.ireturn, 1) := by decide +kernel
set_option maxRecDepth 20000 in
theorem ggX5_length_X1_read : GoodIn wsX5_length wsX1_read := goodIn_r _ [6, 7, 8, 9, 10, 11, 5, 12, 33] (by decide +kernel) (by decide +kernel)
set_option maxRecDepth 20000 in
theorem gX5_length_X1_read : GoodIn wsX5_length (wsV RX5 57 RX1 yX1_read wsX1_read) := goodIn_app (goodIn_of _ (by decide +kernel)) ggX5_length_X1_read
set_option maxRecDepth 20000 in
theorem ggX5_length_X1_inversions : GoodIn wsX5_length wsX1_inversions := goodIn_r _ [16, 17, 18, 19, 5, 20, 21, 22, 23, 24, 8, 33] (by decide +kernel) (by decide +kernel)
set_option maxRecDepth 20000 in
theorem gX5_length_X1_inversions : GoodIn wsX5_length (wsV RX5 65 RX1 yX1_inversions wsX1_inversions) := goodIn_app (goodIn_of _ (by decide +kernel)) ggX5_length_X1_inversions
theorem dX5_length_0 : decode cX5_length 0 = .ok (.aload_n 0, 1) := by decide +kernel
theorem dX5_length_1 : decode cX5_length 1 = .ok (.getfield 12, 3) := by decide +kernel
theorem dX5_length_4 : decode cX5_length 4 = .ok (.iload_n 1, 1) := by decide +kernel
theorem dX5_length_5 : decode cX5_length 5 = .ok (.invokevirtual 57, 3) := by decide +kernel
theorem dX5_length_8 : decode cX5_length 8 = .ok (.ifCond .eq 13, 3) := by decide +kernel
theorem dX5_length_11 : decode cX5_length 11 = .ok (.aload_n 0, 1) := by decide +kernel
theorem dX5_length_12 : decode cX5_length 12 = .ok (.getfield 12, 3) := by decide +kernel
theorem dX5_length_15 : decode cX5_length 15 = .ok (.invokevirtual 65, 3) := by decide +kernel
theorem dX5_length_18 : decode cX5_length 18 = .ok (.goto 5, 3) := by decide +kernel
theorem dX5_length_21 : decode cX5_length 21 = .ok (.bipush (-2), 2) := by decide +kernel
theorem dX5_length_23 : decode cX5_length 23 = .ok (.ireturn, 1) := by decide +kernel
set_option maxRecDepth 20000 in
theorem ggX5_code_X1_read : GoodIn wsX5_code wsX1_read := goodIn_r _ [6, 7, 8, 9, 10, 11, 5, 12, 29] (by decide +kernel) (by decide +kernel)
set_option maxRecDepth 20000 in
theorem gX5_code_X1_read : GoodIn wsX5_code (wsV RX5 57 RX1 yX1_read wsX1_read) := goodIn_app (goodIn_of _ (by decide +kernel)) ggX5_code_X1_read
set_option maxRecDepth 20000 in
theorem ggX5_code_X1_codeAt : GoodIn wsX5_code wsX1_codeAt := goodIn_r _ [16, 17, 18, 19, 5, 20, 8, 29] (by decide +kernel) (by decide +kernel)
set_option maxRecDepth 20000 in
theorem gX5_code_X1_codeAt : GoodIn wsX5_code (wsV RX5 68 RX1 yX1_codeAt wsX1_codeAt) := goodIn_app (goodIn_of _ (by decide +kernel)) ggX5_code_X1_codeAt
theorem dX5_code_0 : decode cX5_code 0 = .ok (.aload_n 0, 1) := by decide +kernel
theorem dX5_code_1 : decode cX5_code 1 = .ok (.getfield 12, 3) := by decide +kernel
theorem dX5_code_4 : decode cX5_code 4 = .ok (.iload_n 1, 1) := by decide +kernel
theorem dX5_code_5 : decode cX5_code 5 = .ok (.invokevirtual 57, 3) := by decide +kernel
theorem dX5_code_8 : decode cX5_code 8 = .ok (.ifCond .eq 14, 3) := by decide +kernel
theorem dX5_code_11 : decode cX5_code 11 = .ok (.iload_n 2, 1) := by decide +kernel
theorem dX5_code_12 : decode cX5_code 12 = .ok (.iconst 1, 1) := by decide +kernel
theorem dX5_code_13 : decode cX5_code 13 = .ok (.if_icmp .lt 9, 3) := by decide +kernel
theorem dX5_code_16 : decode cX5_code 16 = .ok (.iload_n 2, 1) := by decide +kernel
theorem dX5_code_17 : decode cX5_code 17 = .ok (.bipush 9, 2) := by decide +kernel
theorem dX5_code_19 : decode cX5_code 19 = .ok (.if_icmp .le 6, 3) := by decide +kernel
theorem dX5_code_22 : decode cX5_code 22 = .ok (.bipush (-2), 2) := by decide +kernel
theorem dX5_code_24 : decode cX5_code 24 = .ok (.ireturn, 1) := by decide +kernel
theorem dX5_code_25 : decode cX5_code 25 = .ok (.aload_n 0, 1) := by decide +kernel
theorem dX5_code_26 : decode cX5_code 26 = .ok (.getfield 12, 3) := by decide +kernel
theorem dX5_code_29 : decode cX5_code 29 = .ok (.iload_n 2, 1) := by decide +kernel
theorem dX5_code_30 : decode cX5_code 30 = .ok (.invokevirtual 68, 3) := by decide +kernel
theorem dX5_code_33 : decode cX5_code 33 = .ok (.ireturn, 1) := by decide +kernel
set_option maxRecDepth 20000 in
theorem ggX5_descents_X1_read : GoodIn wsX5_descents wsX1_read := goodIn_r _ [6, 7, 8, 9, 10, 11, 5, 12, 25] (by decide +kernel) (by decide +kernel)
set_option maxRecDepth 20000 in
theorem gX5_descents_X1_read : GoodIn wsX5_descents (wsV RX5 57 RX1 yX1_read wsX1_read) := goodIn_app (goodIn_of _ (by decide +kernel)) ggX5_descents_X1_read
set_option maxRecDepth 20000 in
theorem ggX5_descents_X1_descentSet : GoodIn wsX5_descents wsX1_descentSet := goodIn_r _ [16, 8, 25] (by decide +kernel) (by decide +kernel)
set_option maxRecDepth 20000 in
theorem gX5_descents_X1_descentSet : GoodIn wsX5_descents (wsV RX5 72 RX1 yX1_descentSet wsX1_descentSet) := goodIn_app (goodIn_of _ (by decide +kernel)) ggX5_descents_X1_descentSet
theorem dX5_descents_0 : decode cX5_descents 0 = .ok (.aload_n 0, 1) := by decide +kernel
theorem dX5_descents_1 : decode cX5_descents 1 = .ok (.getfield 12, 3) := by decide +kernel
theorem dX5_descents_4 : decode cX5_descents 4 = .ok (.iload_n 1, 1) := by decide +kernel
theorem dX5_descents_5 : decode cX5_descents 5 = .ok (.invokevirtual 57, 3) := by decide +kernel
theorem dX5_descents_8 : decode cX5_descents 8 = .ok (.ifCond .eq 13, 3) := by decide +kernel
theorem dX5_descents_11 : decode cX5_descents 11 = .ok (.aload_n 0, 1) := by decide +kernel
theorem dX5_descents_12 : decode cX5_descents 12 = .ok (.getfield 12, 3) := by decide +kernel
theorem dX5_descents_15 : decode cX5_descents 15 = .ok (.invokevirtual 72, 3) := by decide +kernel
theorem dX5_descents_18 : decode cX5_descents 18 = .ok (.goto 5, 3) := by decide +kernel
theorem dX5_descents_21 : decode cX5_descents 21 = .ok (.bipush (-2), 2) := by decide +kernel
theorem dX5_descents_23 : decode cX5_descents 23 = .ok (.ireturn, 1) := by decide +kernel
set_option maxRecDepth 20000 in
theorem ggX5_inverse_X1_read : GoodIn wsX5_inverse wsX1_read := goodIn_r _ [7, 8, 9, 10, 11, 12, 6, 13, 42] (by decide +kernel) (by decide +kernel)
set_option maxRecDepth 20000 in
theorem gX5_inverse_X1_read : GoodIn wsX5_inverse (wsV RX5 57 RX1 yX1_read wsX1_read) := goodIn_app (goodIn_of _ (by decide +kernel)) ggX5_inverse_X1_read
set_option maxRecDepth 20000 in
theorem ggX5_inverse_X1_becomeInverse : GoodIn wsX5_inverse wsX1_becomeInverse := goodIn_r _ [17, 18, 19, 20, 6, 21, 9, 22, 23, 24, 25, 42] (by decide +kernel) (by decide +kernel)
set_option maxRecDepth 20000 in
theorem gX5_inverse_X1_becomeInverse : GoodIn wsX5_inverse (wsV RX5 75 RX1 yX1_becomeInverse wsX1_becomeInverse) := goodIn_app (goodIn_of _ (by decide +kernel)) ggX5_inverse_X1_becomeInverse
set_option maxRecDepth 20000 in
theorem ggX5_inverse_X1_plainNumber : GoodIn wsX5_inverse wsX1_plainNumber := goodIn_r _ [29, 9, 30, 31, 32, 6, 33, 42] (by decide +kernel) (by decide +kernel)
set_option maxRecDepth 20000 in
theorem gX5_inverse_X1_plainNumber : GoodIn wsX5_inverse (wsV RX5 61 RX1 yX1_plainNumber wsX1_plainNumber) := goodIn_app (goodIn_of _ (by decide +kernel)) ggX5_inverse_X1_plainNumber
theorem dX5_inverse_0 : decode cX5_inverse 0 = .ok (.aload_n 0, 1) := by decide +kernel
theorem dX5_inverse_1 : decode cX5_inverse 1 = .ok (.getfield 12, 3) := by decide +kernel
theorem dX5_inverse_4 : decode cX5_inverse 4 = .ok (.iload_n 1, 1) := by decide +kernel
theorem dX5_inverse_5 : decode cX5_inverse 5 = .ok (.invokevirtual 57, 3) := by decide +kernel
theorem dX5_inverse_8 : decode cX5_inverse 8 = .ok (.ifCond .ne 6, 3) := by decide +kernel
theorem dX5_inverse_11 : decode cX5_inverse 11 = .ok (.bipush (-2), 2) := by decide +kernel
theorem dX5_inverse_13 : decode cX5_inverse 13 = .ok (.ireturn, 1) := by decide +kernel
theorem dX5_inverse_14 : decode cX5_inverse 14 = .ok (.aload_n 0, 1) := by decide +kernel
theorem dX5_inverse_15 : decode cX5_inverse 15 = .ok (.getfield 18, 3) := by decide +kernel
theorem dX5_inverse_18 : decode cX5_inverse 18 = .ok (.aload_n 0, 1) := by decide +kernel
theorem dX5_inverse_19 : decode cX5_inverse 19 = .ok (.getfield 12, 3) := by decide +kernel
theorem dX5_inverse_22 : decode cX5_inverse 22 = .ok (.invokevirtual 75, 3) := by decide +kernel
theorem dX5_inverse_25 : decode cX5_inverse 25 = .ok (.aload_n 0, 1) := by decide +kernel
theorem dX5_inverse_26 : decode cX5_inverse 26 = .ok (.getfield 18, 3) := by decide +kernel
theorem dX5_inverse_29 : decode cX5_inverse 29 = .ok (.invokevirtual 61, 3) := by decide +kernel
theorem dX5_inverse_32 : decode cX5_inverse 32 = .ok (.ireturn, 1) := by decide +kernel
set_option maxRecDepth 20000 in
theorem ggX5_after_X1_read : GoodIn wsX5_after wsX1_read := goodIn_r _ [8, 9, 10, 11, 12, 13, 7, 14, 39] (by decide +kernel) (by decide +kernel)
set_option maxRecDepth 20000 in
theorem gX5_after_X1_read : GoodIn wsX5_after (wsV RX5 57 RX1 yX1_read wsX1_read) := goodIn_app (goodIn_of _ (by decide +kernel)) ggX5_after_X1_read
set_option maxRecDepth 20000 in
theorem ggX5_after_X1_becomeProduct : GoodIn wsX5_after wsX1_becomeProduct := goodIn_r _ [18, 10, 19, 20, 21, 7, 22, 39] (by decide +kernel) (by decide +kernel)
set_option maxRecDepth 20000 in
theorem gX5_after_X1_becomeProduct : GoodIn wsX5_after (wsV RX5 79 RX1 yX1_becomeProduct wsX1_becomeProduct) := goodIn_app (goodIn_of _ (by decide +kernel)) ggX5_after_X1_becomeProduct
set_option maxRecDepth 20000 in
theorem ggX5_after_X1_plainNumber : GoodIn wsX5_after wsX1_plainNumber := goodIn_r _ [26, 10, 27, 28, 29, 7, 30, 39] (by decide +kernel) (by decide +kernel)
set_option maxRecDepth 20000 in
theorem gX5_after_X1_plainNumber : GoodIn wsX5_after (wsV RX5 61 RX1 yX1_plainNumber wsX1_plainNumber) := goodIn_app (goodIn_of _ (by decide +kernel)) ggX5_after_X1_plainNumber
theorem dX5_after_0 : decode cX5_after 0 = .ok (.aload_n 0, 1) := by decide +kernel
theorem dX5_after_1 : decode cX5_after 1 = .ok (.getfield 12, 3) := by decide +kernel
theorem dX5_after_4 : decode cX5_after 4 = .ok (.iload_n 1, 1) := by decide +kernel
theorem dX5_after_5 : decode cX5_after 5 = .ok (.invokevirtual 57, 3) := by decide +kernel
theorem dX5_after_8 : decode cX5_after 8 = .ok (.ifCond .eq 14, 3) := by decide +kernel
theorem dX5_after_11 : decode cX5_after 11 = .ok (.aload_n 0, 1) := by decide +kernel
theorem dX5_after_12 : decode cX5_after 12 = .ok (.getfield 18, 3) := by decide +kernel
theorem dX5_after_15 : decode cX5_after 15 = .ok (.iload_n 2, 1) := by decide +kernel
theorem dX5_after_16 : decode cX5_after 16 = .ok (.invokevirtual 57, 3) := by decide +kernel
theorem dX5_after_19 : decode cX5_after 19 = .ok (.ifCond .ne 6, 3) := by decide +kernel
theorem dX5_after_22 : decode cX5_after 22 = .ok (.bipush (-2), 2) := by decide +kernel
theorem dX5_after_24 : decode cX5_after 24 = .ok (.ireturn, 1) := by decide +kernel
theorem dX5_after_25 : decode cX5_after 25 = .ok (.aload_n 0, 1) := by decide +kernel
theorem dX5_after_26 : decode cX5_after 26 = .ok (.getfield 21, 3) := by decide +kernel
theorem dX5_after_29 : decode cX5_after 29 = .ok (.aload_n 0, 1) := by decide +kernel
theorem dX5_after_30 : decode cX5_after 30 = .ok (.getfield 12, 3) := by decide +kernel
theorem dX5_after_33 : decode cX5_after 33 = .ok (.aload_n 0, 1) := by decide +kernel
theorem dX5_after_34 : decode cX5_after 34 = .ok (.getfield 18, 3) := by decide +kernel
theorem dX5_after_37 : decode cX5_after 37 = .ok (.invokevirtual 79, 3) := by decide +kernel
theorem dX5_after_40 : decode cX5_after 40 = .ok (.aload_n 0, 1) := by decide +kernel
theorem dX5_after_41 : decode cX5_after 41 = .ok (.getfield 21, 3) := by decide +kernel
theorem dX5_after_44 : decode cX5_after 44 = .ok (.invokevirtual 61, 3) := by decide +kernel
theorem dX5_after_47 : decode cX5_after 47 = .ok (.ireturn, 1) := by decide +kernel
set_option maxRecDepth 20000 in
theorem ggX5_ofCode_X5_cellOf : GoodIn wsX5_ofCode wsX5_cellOf := goodIn_r _ [5, 6, 7, 4, 8] (by decide +kernel) (by decide +kernel)
set_option maxRecDepth 20000 in
theorem gX5_ofCode_X5_cellOf : GoodIn wsX5_ofCode (va_wsS RX5 83 yX5_cellOf wsX5_cellOf) := goodIn_app (goodIn_of _ (by decide +kernel)) ggX5_ofCode_X5_cellOf
set_option maxRecDepth 20000 in
theorem ggX5_ofCode_X1_becomeOfCode : GoodIn wsX5_ofCode wsX1_becomeOfCode := goodIn_r _ [13, 14, 15, 4, 16, 17, 18, 12, 19, 36] (by decide +kernel) (by decide +kernel)
set_option maxRecDepth 20000 in
theorem gX5_ofCode_X1_becomeOfCode : GoodIn wsX5_ofCode (wsV RX5 87 RX1 yX1_becomeOfCode wsX1_becomeOfCode) := goodIn_app (goodIn_of _ (by decide +kernel)) ggX5_ofCode_X1_becomeOfCode
set_option maxRecDepth 20000 in
theorem ggX5_ofCode_X1_plainNumber : GoodIn wsX5_ofCode wsX1_plainNumber := goodIn_r _ [23, 14, 24, 25, 26, 12, 27, 36] (by decide +kernel) (by decide +kernel)
set_option maxRecDepth 20000 in
theorem gX5_ofCode_X1_plainNumber : GoodIn wsX5_ofCode (wsV RX5 61 RX1 yX1_plainNumber wsX1_plainNumber) := goodIn_app (goodIn_of _ (by decide +kernel)) ggX5_ofCode_X1_plainNumber
theorem dX5_ofCode_0 : decode cX5_ofCode 0 = .ok (.iload_n 1, 1) := by decide +kernel
theorem dX5_ofCode_1 : decode cX5_ofCode 1 = .ok (.iload_n 2, 1) := by decide +kernel
theorem dX5_ofCode_2 : decode cX5_ofCode 2 = .ok (.iload_n 3, 1) := by decide +kernel
theorem dX5_ofCode_3 : decode cX5_ofCode 3 = .ok (.iload 4, 2) := by decide +kernel
theorem dX5_ofCode_5 : decode cX5_ofCode 5 = .ok (.invokestatic 83, 3) := by decide +kernel
theorem dX5_ofCode_8 : decode cX5_ofCode 8 = .ok (.istore 5, 2) := by decide +kernel
theorem dX5_ofCode_10 : decode cX5_ofCode 10 = .ok (.iload 5, 2) := by decide +kernel
theorem dX5_ofCode_12 : decode cX5_ofCode 12 = .ok (.ifCond .ge 6, 3) := by decide +kernel
theorem dX5_ofCode_15 : decode cX5_ofCode 15 = .ok (.bipush (-2), 2) := by decide +kernel
theorem dX5_ofCode_17 : decode cX5_ofCode 17 = .ok (.ireturn, 1) := by decide +kernel
theorem dX5_ofCode_18 : decode cX5_ofCode 18 = .ok (.aload_n 0, 1) := by decide +kernel
theorem dX5_ofCode_19 : decode cX5_ofCode 19 = .ok (.getfield 12, 3) := by decide +kernel
theorem dX5_ofCode_22 : decode cX5_ofCode 22 = .ok (.iload 5, 2) := by decide +kernel
theorem dX5_ofCode_24 : decode cX5_ofCode 24 = .ok (.invokevirtual 87, 3) := by decide +kernel
theorem dX5_ofCode_27 : decode cX5_ofCode 27 = .ok (.aload_n 0, 1) := by decide +kernel
theorem dX5_ofCode_28 : decode cX5_ofCode 28 = .ok (.getfield 12, 3) := by decide +kernel
theorem dX5_ofCode_31 : decode cX5_ofCode 31 = .ok (.invokevirtual 61, 3) := by decide +kernel
theorem dX5_ofCode_34 : decode cX5_ofCode 34 = .ok (.ireturn, 1) := by decide +kernel
set_option maxRecDepth 20000 in
theorem ggX5_below_X1_read : GoodIn wsX5_below wsX1_read := goodIn_r _ [7, 8, 9, 10, 11, 12, 6, 13, 26] (by decide +kernel) (by decide +kernel)
set_option maxRecDepth 20000 in
theorem gX5_below_X1_read : GoodIn wsX5_below (wsV RX5 57 RX1 yX1_read wsX1_read) := goodIn_app (goodIn_of _ (by decide +kernel)) ggX5_below_X1_read
set_option maxRecDepth 20000 in
theorem ggX5_below_X1_isBelow : GoodIn wsX5_below wsX1_isBelow := goodIn_r _ [17, 9, 26] (by decide +kernel) (by decide +kernel)
set_option maxRecDepth 20000 in
theorem gX5_below_X1_isBelow : GoodIn wsX5_below (wsV RX5 90 RX1 yX1_isBelow wsX1_isBelow) := goodIn_app (goodIn_of _ (by decide +kernel)) ggX5_below_X1_isBelow
theorem dX5_below_0 : decode cX5_below 0 = .ok (.aload_n 0, 1) := by decide +kernel
theorem dX5_below_1 : decode cX5_below 1 = .ok (.getfield 12, 3) := by decide +kernel
theorem dX5_below_4 : decode cX5_below 4 = .ok (.iload_n 1, 1) := by decide +kernel
theorem dX5_below_5 : decode cX5_below 5 = .ok (.invokevirtual 57, 3) := by decide +kernel
theorem dX5_below_8 : decode cX5_below 8 = .ok (.ifCond .eq 14, 3) := by decide +kernel
theorem dX5_below_11 : decode cX5_below 11 = .ok (.aload_n 0, 1) := by decide +kernel
theorem dX5_below_12 : decode cX5_below 12 = .ok (.getfield 18, 3) := by decide +kernel
theorem dX5_below_15 : decode cX5_below 15 = .ok (.iload_n 2, 1) := by decide +kernel
theorem dX5_below_16 : decode cX5_below 16 = .ok (.invokevirtual 57, 3) := by decide +kernel
theorem dX5_below_19 : decode cX5_below 19 = .ok (.ifCond .ne 6, 3) := by decide +kernel
theorem dX5_below_22 : decode cX5_below 22 = .ok (.bipush (-2), 2) := by decide +kernel
theorem dX5_below_24 : decode cX5_below 24 = .ok (.ireturn, 1) := by decide +kernel
theorem dX5_below_25 : decode cX5_below 25 = .ok (.aload_n 0, 1) := by decide +kernel
theorem dX5_below_26 : decode cX5_below 26 = .ok (.getfield 12, 3) := by decide +kernel
theorem dX5_below_29 : decode cX5_below 29 = .ok (.aload_n 0, 1) := by decide +kernel
theorem dX5_below_30 : decode cX5_below 30 = .ok (.getfield 18, 3) := by decide +kernel
theorem dX5_below_33 : decode cX5_below 33 = .ok (.invokevirtual 90, 3) := by decide +kernel
theorem dX5_below_36 : decode cX5_below 36 = .ok (.ifCond .eq 7, 3) := by decide +kernel
theorem dX5_below_39 : decode cX5_below 39 = .ok (.iconst 1, 1) := by decide +kernel
theorem dX5_below_40 : decode cX5_below 40 = .ok (.goto 4, 3) := by decide +kernel
theorem dX5_below_43 : decode cX5_below 43 = .ok (.iconst 0, 1) := by decide +kernel
theorem dX5_below_44 : decode cX5_below 44 = .ok (.ireturn, 1) := by decide +kernel
set_option maxRecDepth 20000 in
theorem ggX5_words_X1_read : GoodIn wsX5_words wsX1_read := goodIn_r _ [6, 7, 8, 9, 10, 11, 5, 12, 46] (by decide +kernel) (by decide +kernel)
set_option maxRecDepth 20000 in
theorem gX5_words_X1_read : GoodIn wsX5_words (wsV RX5 57 RX1 yX1_read wsX1_read) := goodIn_app (goodIn_of _ (by decide +kernel)) ggX5_words_X1_read
set_option maxRecDepth 20000 in
theorem ggX5_words_X1_isSmall : GoodIn wsX5_words wsX1_isSmall := goodIn_r _ [16, 17, 18, 19, 5, 20, 8, 46] (by decide +kernel) (by decide +kernel)
set_option maxRecDepth 20000 in
theorem gX5_words_X1_isSmall : GoodIn wsX5_words (wsV RX5 94 RX1 yX1_isSmall wsX1_isSmall) := goodIn_app (goodIn_of _ (by decide +kernel)) ggX5_words_X1_isSmall
set_option maxRecDepth 20000 in
theorem ggX5_words_X5_waysDown : GoodIn wsX5_words wsX5_waysDown := goodIn_r _ [24, 25, 26, 27, 5, 28, 8, 29, 30, 31, 32, 33, 34, 35, 36, 37, 21, 22, 23, 46] (by decide +kernel) (by decide +kernel)
set_option maxRecDepth 20000 in
theorem gX5_words_X5_waysDown : GoodIn wsX5_words (va_wsS RX5 98 yX5_waysDown wsX5_waysDown) := goodIn_app (goodIn_of _ (by decide +kernel)) ggX5_words_X5_waysDown
theorem dX5_words_0 : decode cX5_words 0 = .ok (.aload_n 0, 1) := by decide +kernel
theorem dX5_words_1 : decode cX5_words 1 = .ok (.getfield 12, 3) := by decide +kernel
theorem dX5_words_4 : decode cX5_words 4 = .ok (.iload_n 1, 1) := by decide +kernel
theorem dX5_words_5 : decode cX5_words 5 = .ok (.invokevirtual 57, 3) := by decide +kernel
theorem dX5_words_8 : decode cX5_words 8 = .ok (.ifCond .ne 6, 3) := by decide +kernel
theorem dX5_words_11 : decode cX5_words 11 = .ok (.bipush (-2), 2) := by decide +kernel
theorem dX5_words_13 : decode cX5_words 13 = .ok (.ireturn, 1) := by decide +kernel
theorem dX5_words_14 : decode cX5_words 14 = .ok (.aload_n 0, 1) := by decide +kernel
theorem dX5_words_15 : decode cX5_words 15 = .ok (.getfield 12, 3) := by decide +kernel
theorem dX5_words_18 : decode cX5_words 18 = .ok (.invokevirtual 94, 3) := by decide +kernel
theorem dX5_words_21 : decode cX5_words 21 = .ok (.ifCond .eq 14, 3) := by decide +kernel
theorem dX5_words_24 : decode cX5_words 24 = .ok (.aload_n 0, 1) := by decide +kernel
theorem dX5_words_25 : decode cX5_words 25 = .ok (.getfield 12, 3) := by decide +kernel
theorem dX5_words_28 : decode cX5_words 28 = .ok (.iconst 0, 1) := by decide +kernel
theorem dX5_words_29 : decode cX5_words 29 = .ok (.invokestatic 98, 3) := by decide +kernel
theorem dX5_words_32 : decode cX5_words 32 = .ok (.goto 5, 3) := by decide +kernel
theorem dX5_words_35 : decode cX5_words 35 = .ok (.bipush (-3), 2) := by decide +kernel
theorem dX5_words_37 : decode cX5_words 37 = .ok (.ireturn, 1) := by decide +kernel
set_option maxRecDepth 20000 in
theorem ggX5_number_X5_fitCell : GoodIn wsX5_number wsX5_fitCell := goodIn_r _ [7, 8, 9, 10, 11, 12, 13, 14, 15, 16, 17, 18, 19, 20, 21, 22, 23, 24, 25, 26, 27, 28, 29, 30, 31, 32, 33, 34, 35, 36, 37, 38, 39, 40, 6, 41, 42, 43, 44, 115, 116, 117, 118, 119, 120, 121, 122, 127] (by decide +kernel) (by decide +kernel)
set_option maxRecDepth 20000 in
theorem gX5_number_X5_fitCell : GoodIn wsX5_number (wsV RX5 102 RX5 yX5_fitCell wsX5_fitCell) := goodIn_app (goodIn_of _ (by decide +kernel)) ggX5_number_X5_fitCell
set_option maxRecDepth 20000 in
theorem ggX5_number_X5_isAnyNegative : GoodIn wsX5_number wsX5_isAnyNegative := goodIn_r _ [44] (by decide +kernel) (by decide +kernel)
set_option maxRecDepth 20000 in
theorem gX5_number_X5_isAnyNegative : GoodIn wsX5_number (va_wsS RX5 105 yX5_isAnyNegative wsX5_isAnyNegative) := goodIn_app (goodIn_of _ (by decide +kernel)) ggX5_number_X5_isAnyNegative
set_option maxRecDepth 20000 in
theorem ggX5_number_X4_make : GoodIn wsX5_number wsX4_make := goodIn_r _ [49, 50, 51, 52, 53, 54, 6, 55, 56, 57, 58, 48, 59, 60, 61, 62, 63, 64, 65, 66, 67, 40, 41, 42, 43, 44, 68, 69, 70, 71, 72, 73, 74, 75, 76, 77, 78, 79, 80, 81, 82, 83, 84, 85, 86, 87, 88, 89, 90, 91, 92, 93, 94, 95, 96, 97, 98, 99, 100, 101, 102, 103, 104, 105, 106, 107, 108, 109, 110, 111, 112, 123, 124, 125, 126, 128, 129] (by decide +kernel) (by decide +kernel)
set_option maxRecDepth 20000 in
theorem gX5_number_X4_make : GoodIn wsX5_number (wsV RX5 109 RX4 yX4_make wsX4_make) := goodIn_app (goodIn_of _ (by decide +kernel)) ggX5_number_X4_make
set_option maxRecDepth 20000 in
theorem ggX5_number_X5_cellOf : GoodIn wsX5_number wsX5_cellOf := goodIn_r _ [41, 42, 43, 6, 44] (by decide +kernel) (by decide +kernel)
set_option maxRecDepth 20000 in
theorem gX5_number_X5_cellOf : GoodIn wsX5_number (va_wsS RX5 83 yX5_cellOf wsX5_cellOf) := goodIn_app (goodIn_of _ (by decide +kernel)) ggX5_number_X5_cellOf
set_option maxRecDepth 20000 in
theorem ggX5_number_X2_at : GoodIn wsX5_number wsX2_at := goodIn_r _ [108, 73, 128, 129] (by decide +kernel) (by decide +kernel)
set_option maxRecDepth 20000 in
theorem gX5_number_X2_at : GoodIn wsX5_number (wsV RX5 115 RX2 yX2_at wsX2_at) := goodIn_app (goodIn_of _ (by decide +kernel)) ggX5_number_X2_at
theorem dX5_number_0 : decode cX5_number 0 = .ok (.aload_n 0, 1) := by decide +kernel
theorem dX5_number_1 : decode cX5_number 1 = .ok (.iload_n 1, 1) := by decide +kernel
theorem dX5_number_2 : decode cX5_number 2 = .ok (.invokevirtual 102, 3) := by decide +kernel
theorem dX5_number_5 : decode cX5_number 5 = .ok (.istore 6, 2) := by decide +kernel
theorem dX5_number_7 : decode cX5_number 7 = .ok (.iload 6, 2) := by decide +kernel
theorem dX5_number_9 : decode cX5_number 9 = .ok (.bipush (-2), 2) := by decide +kernel
theorem dX5_number_11 : decode cX5_number 11 = .ok (.if_icmp .eq 15, 3) := by decide +kernel
theorem dX5_number_14 : decode cX5_number 14 = .ok (.iload_n 2, 1) := by decide +kernel
theorem dX5_number_15 : decode cX5_number 15 = .ok (.iload_n 3, 1) := by decide +kernel
theorem dX5_number_16 : decode cX5_number 16 = .ok (.iload 4, 2) := by decide +kernel
theorem dX5_number_18 : decode cX5_number 18 = .ok (.iload 5, 2) := by decide +kernel
theorem dX5_number_20 : decode cX5_number 20 = .ok (.invokestatic 105, 3) := by decide +kernel
theorem dX5_number_23 : decode cX5_number 23 = .ok (.ifCond .eq 6, 3) := by decide +kernel
theorem dX5_number_26 : decode cX5_number 26 = .ok (.bipush (-2), 2) := by decide +kernel
theorem dX5_number_28 : decode cX5_number 28 = .ok (.ireturn, 1) := by decide +kernel
theorem dX5_number_29 : decode cX5_number 29 = .ok (.iload 6, 2) := by decide +kernel
theorem dX5_number_31 : decode cX5_number 31 = .ok (.ifCond .ge 6, 3) := by decide +kernel
theorem dX5_number_34 : decode cX5_number 34 = .ok (.iload 6, 2) := by decide +kernel
theorem dX5_number_36 : decode cX5_number 36 = .ok (.ireturn, 1) := by decide +kernel
theorem dX5_number_37 : decode cX5_number 37 = .ok (.aload_n 0, 1) := by decide +kernel
theorem dX5_number_38 : decode cX5_number 38 = .ok (.getfield 46, 3) := by decide +kernel
theorem dX5_number_41 : decode cX5_number 41 = .ok (.iload 6, 2) := by decide +kernel
theorem dX5_number_43 : decode cX5_number 43 = .ok (.invokevirtual 109, 3) := by decide +kernel
theorem dX5_number_46 : decode cX5_number 46 = .ok (.aload_n 0, 1) := by decide +kernel
theorem dX5_number_47 : decode cX5_number 47 = .ok (.getfield 46, 3) := by decide +kernel
theorem dX5_number_50 : decode cX5_number 50 = .ok (.getfield 112, 3) := by decide +kernel
theorem dX5_number_53 : decode cX5_number 53 = .ok (.iload_n 2, 1) := by decide +kernel
theorem dX5_number_54 : decode cX5_number 54 = .ok (.iload_n 3, 1) := by decide +kernel
theorem dX5_number_55 : decode cX5_number 55 = .ok (.iload 4, 2) := by decide +kernel
theorem dX5_number_57 : decode cX5_number 57 = .ok (.iload 5, 2) := by decide +kernel
theorem dX5_number_59 : decode cX5_number 59 = .ok (.invokestatic 83, 3) := by decide +kernel
theorem dX5_number_62 : decode cX5_number 62 = .ok (.invokevirtual 115, 3) := by decide +kernel
theorem dX5_number_65 : decode cX5_number 65 = .ok (.l2i, 1) := by decide +kernel
theorem dX5_number_66 : decode cX5_number 66 = .ok (.ireturn, 1) := by decide +kernel
set_option maxRecDepth 20000 in
theorem ggX5_terms_X5_fitCell : GoodIn wsX5_terms wsX5_fitCell := goodIn_r _ [7, 8, 9, 10, 11, 12, 13, 14, 15, 16, 17, 18, 19, 20, 21, 22, 23, 24, 25, 26, 27, 28, 29, 30, 31, 32, 33, 34, 35, 36, 37, 38, 39, 40, 6, 41, 42, 43, 44, 117, 118, 119, 120, 121, 122, 123, 124, 129] (by decide +kernel) (by decide +kernel)
set_option maxRecDepth 20000 in
theorem gX5_terms_X5_fitCell : GoodIn wsX5_terms (wsV RX5 102 RX5 yX5_fitCell wsX5_fitCell) := goodIn_app (goodIn_of _ (by decide +kernel)) ggX5_terms_X5_fitCell
set_option maxRecDepth 20000 in
theorem ggX5_terms_X4_make : GoodIn wsX5_terms wsX4_make := goodIn_r _ [49, 50, 51, 52, 53, 54, 6, 55, 56, 57, 58, 48, 59, 60, 61, 62, 63, 64, 65, 66, 67, 40, 41, 42, 43, 44, 68, 69, 70, 71, 72, 73, 74, 75, 76, 77, 78, 79, 80, 81, 82, 83, 84, 85, 86, 87, 88, 89, 90, 91, 92, 93, 94, 95, 96, 97, 98, 99, 100, 101, 102, 103, 104, 105, 106, 107, 108, 109, 110, 111, 112, 125, 126, 127, 128, 130, 131] (by decide +kernel) (by decide +kernel)
set_option maxRecDepth 20000 in
theorem gX5_terms_X4_make : GoodIn wsX5_terms (wsV RX5 109 RX4 yX4_make wsX4_make) := goodIn_app (goodIn_of _ (by decide +kernel)) ggX5_terms_X4_make
set_option maxRecDepth 20000 in
theorem ggX5_terms_X2_filled : GoodIn wsX5_terms wsX2_filled := goodIn_r _ [116, 73, 130, 131] (by decide +kernel) (by decide +kernel)
set_option maxRecDepth 20000 in
theorem gX5_terms_X2_filled : GoodIn wsX5_terms (wsV RX5 119 RX2 yX2_filled wsX2_filled) := goodIn_app (goodIn_of _ (by decide +kernel)) ggX5_terms_X2_filled
theorem dX5_terms_0 : decode cX5_terms 0 = .ok (.aload_n 0, 1) := by decide +kernel
theorem dX5_terms_1 : decode cX5_terms 1 = .ok (.iload_n 1, 1) := by decide +kernel
theorem dX5_terms_2 : decode cX5_terms 2 = .ok (.invokevirtual 102, 3) := by decide +kernel
theorem dX5_terms_5 : decode cX5_terms 5 = .ok (.istore_n 2, 1) := by decide +kernel
theorem dX5_terms_6 : decode cX5_terms 6 = .ok (.iload_n 2, 1) := by decide +kernel
theorem dX5_terms_7 : decode cX5_terms 7 = .ok (.ifCond .ge 5, 3) := by decide +kernel
theorem dX5_terms_10 : decode cX5_terms 10 = .ok (.iload_n 2, 1) := by decide +kernel
theorem dX5_terms_11 : decode cX5_terms 11 = .ok (.ireturn, 1) := by decide +kernel
theorem dX5_terms_12 : decode cX5_terms 12 = .ok (.aload_n 0, 1) := by decide +kernel
theorem dX5_terms_13 : decode cX5_terms 13 = .ok (.getfield 46, 3) := by decide +kernel
theorem dX5_terms_16 : decode cX5_terms 16 = .ok (.iload_n 2, 1) := by decide +kernel
theorem dX5_terms_17 : decode cX5_terms 17 = .ok (.invokevirtual 109, 3) := by decide +kernel
theorem dX5_terms_20 : decode cX5_terms 20 = .ok (.aload_n 0, 1) := by decide +kernel
theorem dX5_terms_21 : decode cX5_terms 21 = .ok (.getfield 46, 3) := by decide +kernel
theorem dX5_terms_24 : decode cX5_terms 24 = .ok (.getfield 112, 3) := by decide +kernel
theorem dX5_terms_27 : decode cX5_terms 27 = .ok (.invokevirtual 119, 3) := by decide +kernel
theorem dX5_terms_30 : decode cX5_terms 30 = .ok (.ireturn, 1) := by decide +kernel
set_option maxRecDepth 20000 in
theorem ggX5_value_X5_fitCell : GoodIn wsX5_value wsX5_fitCell := goodIn_r _ [8, 9, 10, 11, 12, 13, 14, 15, 16, 17, 18, 19, 20, 21, 22, 23, 24, 25, 26, 27, 28, 29, 30, 31, 32, 33, 34, 35, 36, 37, 38, 39, 40, 41, 7, 42, 43, 44, 45, 125, 126, 127, 128, 129, 130, 131, 132, 137] (by decide +kernel) (by decide +kernel)
set_option maxRecDepth 20000 in
theorem gX5_value_X5_fitCell : GoodIn wsX5_value (wsV RX5 102 RX5 yX5_fitCell wsX5_fitCell) := goodIn_app (goodIn_of _ (by decide +kernel)) ggX5_value_X5_fitCell
set_option maxRecDepth 20000 in
theorem ggX5_value_X5_isPoint : GoodIn wsX5_value wsX5_isPoint := goodIn_r _ [48] (by decide +kernel) (by decide +kernel)
set_option maxRecDepth 20000 in
theorem gX5_value_X5_isPoint : GoodIn wsX5_value (va_wsS RX5 122 yX5_isPoint wsX5_isPoint) := goodIn_app (goodIn_of _ (by decide +kernel)) ggX5_value_X5_isPoint
set_option maxRecDepth 20000 in
theorem ggX5_value_X4_make : GoodIn wsX5_value wsX4_make := goodIn_r _ [53, 54, 55, 56, 57, 58, 7, 59, 60, 61, 62, 52, 63, 64, 65, 66, 67, 68, 69, 70, 71, 41, 42, 43, 44, 45, 72, 73, 74, 75, 76, 77, 78, 79, 80, 81, 82, 83, 84, 85, 86, 87, 88, 89, 90, 91, 92, 93, 94, 95, 96, 97, 98, 99, 100, 101, 102, 103, 104, 105, 106, 107, 108, 109, 110, 111, 112, 113, 114, 115, 116, 133, 134, 135, 136, 138, 139] (by decide +kernel) (by decide +kernel)
set_option maxRecDepth 20000 in
theorem gX5_value_X4_make : GoodIn wsX5_value (wsV RX5 109 RX4 yX4_make wsX4_make) := goodIn_app (goodIn_of _ (by decide +kernel)) ggX5_value_X4_make
set_option maxRecDepth 20000 in
theorem ggX5_value_X2_valueAt : GoodIn wsX5_value wsX2_valueAt := goodIn_r _ [120, 41, 7, 42, 43, 44, 45, 121, 122, 123, 75, 124, 109, 110, 111, 112, 77, 138, 139] (by decide +kernel) (by decide +kernel)
set_option maxRecDepth 20000 in
theorem gX5_value_X2_valueAt : GoodIn wsX5_value (wsV RX5 127 RX2 yX2_valueAt wsX2_valueAt) := goodIn_app (goodIn_of _ (by decide +kernel)) ggX5_value_X2_valueAt
theorem dX5_value_0 : decode cX5_value 0 = .ok (.aload_n 0, 1) := by decide +kernel
theorem dX5_value_1 : decode cX5_value 1 = .ok (.iload_n 1, 1) := by decide +kernel
theorem dX5_value_2 : decode cX5_value 2 = .ok (.invokevirtual 102, 3) := by decide +kernel
theorem dX5_value_5 : decode cX5_value 5 = .ok (.istore 6, 2) := by decide +kernel
theorem dX5_value_7 : decode cX5_value 7 = .ok (.iload 6, 2) := by decide +kernel
theorem dX5_value_9 : decode cX5_value 9 = .ok (.ifCond .lt 33, 3) := by decide +kernel
theorem dX5_value_12 : decode cX5_value 12 = .ok (.iload_n 2, 1) := by decide +kernel
theorem dX5_value_13 : decode cX5_value 13 = .ok (.invokestatic 122, 3) := by decide +kernel
theorem dX5_value_16 : decode cX5_value 16 = .ok (.ifCond .eq 26, 3) := by decide +kernel
theorem dX5_value_19 : decode cX5_value 19 = .ok (.iload_n 3, 1) := by decide +kernel
theorem dX5_value_20 : decode cX5_value 20 = .ok (.invokestatic 122, 3) := by decide +kernel
theorem dX5_value_23 : decode cX5_value 23 = .ok (.ifCond .eq 19, 3) := by decide +kernel
theorem dX5_value_26 : decode cX5_value 26 = .ok (.iload 4, 2) := by decide +kernel
theorem dX5_value_28 : decode cX5_value 28 = .ok (.invokestatic 122, 3) := by decide +kernel
theorem dX5_value_31 : decode cX5_value 31 = .ok (.ifCond .eq 11, 3) := by decide +kernel
theorem dX5_value_34 : decode cX5_value 34 = .ok (.iload 5, 2) := by decide +kernel
theorem dX5_value_36 : decode cX5_value 36 = .ok (.invokestatic 122, 3) := by decide +kernel
theorem dX5_value_39 : decode cX5_value 39 = .ok (.ifCond .ne 7, 3) := by decide +kernel
theorem dX5_value_42 : decode cX5_value 42 = .ok (.ldc2_w 125, 3) := by decide +kernel
theorem dX5_value_45 : decode cX5_value 45 = .ok (.lreturn, 1) := by decide +kernel
theorem dX5_value_46 : decode cX5_value 46 = .ok (.aload_n 0, 1) := by decide +kernel
theorem dX5_value_47 : decode cX5_value 47 = .ok (.getfield 46, 3) := by decide +kernel
theorem dX5_value_50 : decode cX5_value 50 = .ok (.iload 6, 2) := by decide +kernel
theorem dX5_value_52 : decode cX5_value 52 = .ok (.invokevirtual 109, 3) := by decide +kernel
theorem dX5_value_55 : decode cX5_value 55 = .ok (.aload_n 0, 1) := by decide +kernel
theorem dX5_value_56 : decode cX5_value 56 = .ok (.getfield 46, 3) := by decide +kernel
theorem dX5_value_59 : decode cX5_value 59 = .ok (.getfield 112, 3) := by decide +kernel
theorem dX5_value_62 : decode cX5_value 62 = .ok (.iload_n 2, 1) := by decide +kernel
theorem dX5_value_63 : decode cX5_value 63 = .ok (.iload_n 3, 1) := by decide +kernel
theorem dX5_value_64 : decode cX5_value 64 = .ok (.iload 4, 2) := by decide +kernel
theorem dX5_value_66 : decode cX5_value 66 = .ok (.iload 5, 2) := by decide +kernel
theorem dX5_value_68 : decode cX5_value 68 = .ok (.invokevirtual 127, 3) := by decide +kernel
theorem dX5_value_71 : decode cX5_value 71 = .ok (.lreturn, 1) := by decide +kernel
set_option maxRecDepth 20000 in
theorem ggX5_wipe_X2_filled : GoodIn wsX5_wipe wsX2_filled := goodIn_r _ [7, 8, 31, 32] (by decide +kernel) (by decide +kernel)
set_option maxRecDepth 20000 in
theorem gX5_wipe_X2_filled : GoodIn wsX5_wipe (wsV RX5 119 RX2 yX2_filled wsX2_filled) := goodIn_app (goodIn_of _ (by decide +kernel)) ggX5_wipe_X2_filled
set_option maxRecDepth 20000 in
theorem ggX5_wipe_X2_clear : GoodIn wsX5_wipe wsX2_clear := goodIn_r _ [12, 8, 13, 14, 15, 16, 31, 32] (by decide +kernel) (by decide +kernel)
set_option maxRecDepth 20000 in
theorem gX5_wipe_X2_clear : GoodIn wsX5_wipe (wsV RX5 131 RX2 yX2_clear wsX2_clear) := goodIn_app (goodIn_of _ (by decide +kernel)) ggX5_wipe_X2_clear
set_option maxRecDepth 20000 in
theorem ggX5_wipe_X3_forget : GoodIn wsX5_wipe wsX3_forget := goodIn_r _ [21, 22, 33, 34, 35] (by decide +kernel) (by decide +kernel)
set_option maxRecDepth 20000 in
theorem gX5_wipe_X3_forget : GoodIn wsX5_wipe (wsV RX5 134 RX3 yX3_forget wsX3_forget) := goodIn_app (goodIn_of _ (by decide +kernel)) ggX5_wipe_X3_forget
theorem dX5_wipe_0 : decode cX5_wipe 0 = .ok (.aload_n 0, 1) := by decide +kernel
theorem dX5_wipe_1 : decode cX5_wipe 1 = .ok (.getfield 36, 3) := by decide +kernel
theorem dX5_wipe_4 : decode cX5_wipe 4 = .ok (.invokevirtual 119, 3) := by decide +kernel
theorem dX5_wipe_7 : decode cX5_wipe 7 = .ok (.istore_n 1, 1) := by decide +kernel
theorem dX5_wipe_8 : decode cX5_wipe 8 = .ok (.aload_n 0, 1) := by decide +kernel
theorem dX5_wipe_9 : decode cX5_wipe 9 = .ok (.getfield 36, 3) := by decide +kernel
theorem dX5_wipe_12 : decode cX5_wipe 12 = .ok (.invokevirtual 131, 3) := by decide +kernel
theorem dX5_wipe_15 : decode cX5_wipe 15 = .ok (.aload_n 0, 1) := by decide +kernel
theorem dX5_wipe_16 : decode cX5_wipe 16 = .ok (.getfield 53, 3) := by decide +kernel
theorem dX5_wipe_19 : decode cX5_wipe 19 = .ok (.invokevirtual 134, 3) := by decide +kernel
theorem dX5_wipe_22 : decode cX5_wipe 22 = .ok (.iload_n 1, 1) := by decide +kernel
theorem dX5_wipe_23 : decode cX5_wipe 23 = .ok (.ireturn, 1) := by decide +kernel
set_option maxRecDepth 20000 in
theorem ggX5_add_X5_fitCell : GoodIn wsX5_add wsX5_fitCell := goodIn_r _ [9, 10, 11, 12, 13, 14, 15, 16, 17, 18, 19, 20, 21, 22, 23, 24, 25, 26, 27, 28, 29, 30, 31, 32, 33, 34, 35, 36, 37, 38, 39, 40, 41, 42, 8, 43, 44, 45, 46, 148, 149, 150, 151, 152, 153, 154, 155, 160] (by decide +kernel) (by decide +kernel)
set_option maxRecDepth 20000 in
theorem gX5_add_X5_fitCell : GoodIn wsX5_add (wsV RX5 102 RX5 yX5_fitCell wsX5_fitCell) := goodIn_app (goodIn_of _ (by decide +kernel)) ggX5_add_X5_fitCell
set_option maxRecDepth 20000 in
theorem ggX5_add_X4_make : GoodIn wsX5_add wsX4_make := goodIn_r _ [51, 52, 53, 54, 55, 56, 8, 57, 58, 59, 60, 50, 61, 62, 63, 64, 65, 66, 67, 68, 69, 42, 43, 44, 45, 46, 70, 71, 72, 73, 74, 75, 76, 77, 78, 79, 80, 81, 82, 83, 84, 85, 86, 87, 88, 89, 90, 91, 92, 93, 94, 95, 96, 97, 98, 99, 100, 101, 102, 103, 104, 105, 106, 107, 108, 109, 110, 111, 112, 113, 114, 156, 157, 158, 159, 161, 162] (by decide +kernel) (by decide +kernel)
set_option maxRecDepth 20000 in
theorem gX5_add_X4_make : GoodIn wsX5_add (wsV RX5 109 RX4 yX4_make wsX4_make) := goodIn_app (goodIn_of _ (by decide +kernel)) ggX5_add_X4_make
set_option maxRecDepth 20000 in
theorem ggX5_add_X2_copy : GoodIn wsX5_add wsX2_copy := goodIn_r _ [118, 75, 119, 120, 121, 122, 161, 162] (by decide +kernel) (by decide +kernel)
set_option maxRecDepth 20000 in
theorem gX5_add_X2_copy : GoodIn wsX5_add (wsV RX5 137 RX2 yX2_copy wsX2_copy) := goodIn_app (goodIn_of _ (by decide +kernel)) ggX5_add_X2_copy
set_option maxRecDepth 20000 in
theorem ggX5_add_X2_addTimes : GoodIn wsX5_add wsX2_addTimes := goodIn_r _ [126, 75, 161, 162] (by decide +kernel) (by decide +kernel)
set_option maxRecDepth 20000 in
theorem gX5_add_X2_addTimes : GoodIn wsX5_add (wsV RX5 141 RX2 yX2_addTimes wsX2_addTimes) := goodIn_app (goodIn_of _ (by decide +kernel)) ggX5_add_X2_addTimes
set_option maxRecDepth 20000 in
theorem ggX5_add_X5_takeDraft : GoodIn wsX5_add wsX5_takeDraft := goodIn_r _ [130, 2, 3, 131, 132, 133, 134, 73, 135, 75, 136, 137, 115, 116, 117, 118, 119, 120, 121, 122, 138, 139, 140, 141, 142, 143, 144, 145, 146, 147, 148, 149, 150, 151, 152, 153, 154, 155, 161, 162, 163, 164, 165] (by decide +kernel) (by decide +kernel)
set_option maxRecDepth 20000 in
theorem gX5_add_X5_takeDraft : GoodIn wsX5_add (wsV RX5 145 RX5 yX5_takeDraft wsX5_takeDraft) := goodIn_app (goodIn_of _ (by decide +kernel)) ggX5_add_X5_takeDraft
theorem dX5_add_0 : decode cX5_add 0 = .ok (.aload_n 0, 1) := by decide +kernel
theorem dX5_add_1 : decode cX5_add 1 = .ok (.iload_n 2, 1) := by decide +kernel
theorem dX5_add_2 : decode cX5_add 2 = .ok (.invokevirtual 102, 3) := by decide +kernel
theorem dX5_add_5 : decode cX5_add 5 = .ok (.istore_n 3, 1) := by decide +kernel
theorem dX5_add_6 : decode cX5_add 6 = .ok (.iload_n 3, 1) := by decide +kernel
theorem dX5_add_7 : decode cX5_add 7 = .ok (.bipush (-2), 2) := by decide +kernel
theorem dX5_add_9 : decode cX5_add 9 = .ok (.if_icmp .eq 17, 3) := by decide +kernel
theorem dX5_add_12 : decode cX5_add 12 = .ok (.iload_n 1, 1) := by decide +kernel
theorem dX5_add_13 : decode cX5_add 13 = .ok (.sipush (-1000), 3) := by decide +kernel
theorem dX5_add_16 : decode cX5_add 16 = .ok (.if_icmp .lt 10, 3) := by decide +kernel
theorem dX5_add_19 : decode cX5_add 19 = .ok (.iload_n 1, 1) := by decide +kernel
theorem dX5_add_20 : decode cX5_add 20 = .ok (.sipush 1000, 3) := by decide +kernel
theorem dX5_add_23 : decode cX5_add 23 = .ok (.if_icmp .le 6, 3) := by decide +kernel
theorem dX5_add_26 : decode cX5_add 26 = .ok (.bipush (-2), 2) := by decide +kernel
theorem dX5_add_28 : decode cX5_add 28 = .ok (.ireturn, 1) := by decide +kernel
theorem dX5_add_29 : decode cX5_add 29 = .ok (.iload_n 3, 1) := by decide +kernel
theorem dX5_add_30 : decode cX5_add 30 = .ok (.ifCond .ge 5, 3) := by decide +kernel
theorem dX5_add_33 : decode cX5_add 33 = .ok (.iload_n 3, 1) := by decide +kernel
theorem dX5_add_34 : decode cX5_add 34 = .ok (.ireturn, 1) := by decide +kernel
theorem dX5_add_35 : decode cX5_add 35 = .ok (.aload_n 0, 1) := by decide +kernel
theorem dX5_add_36 : decode cX5_add 36 = .ok (.getfield 46, 3) := by decide +kernel
theorem dX5_add_39 : decode cX5_add 39 = .ok (.iload_n 3, 1) := by decide +kernel
theorem dX5_add_40 : decode cX5_add 40 = .ok (.invokevirtual 109, 3) := by decide +kernel
theorem dX5_add_43 : decode cX5_add 43 = .ok (.aload_n 0, 1) := by decide +kernel
theorem dX5_add_44 : decode cX5_add 44 = .ok (.getfield 40, 3) := by decide +kernel
theorem dX5_add_47 : decode cX5_add 47 = .ok (.aload_n 0, 1) := by decide +kernel
theorem dX5_add_48 : decode cX5_add 48 = .ok (.getfield 36, 3) := by decide +kernel
theorem dX5_add_51 : decode cX5_add 51 = .ok (.invokevirtual 137, 3) := by decide +kernel
theorem dX5_add_54 : decode cX5_add 54 = .ok (.aload_n 0, 1) := by decide +kernel
theorem dX5_add_55 : decode cX5_add 55 = .ok (.getfield 40, 3) := by decide +kernel
theorem dX5_add_58 : decode cX5_add 58 = .ok (.iload_n 1, 1) := by decide +kernel
theorem dX5_add_59 : decode cX5_add 59 = .ok (.i2l, 1) := by decide +kernel
theorem dX5_add_60 : decode cX5_add 60 = .ok (.aload_n 0, 1) := by decide +kernel
theorem dX5_add_61 : decode cX5_add 61 = .ok (.getfield 46, 3) := by decide +kernel
theorem dX5_add_64 : decode cX5_add 64 = .ok (.getfield 112, 3) := by decide +kernel
theorem dX5_add_67 : decode cX5_add 67 = .ok (.sipush 3024, 3) := by decide +kernel
theorem dX5_add_70 : decode cX5_add 70 = .ok (.invokevirtual 141, 3) := by decide +kernel
theorem dX5_add_73 : decode cX5_add 73 = .ok (.aload_n 0, 1) := by decide +kernel
theorem dX5_add_74 : decode cX5_add 74 = .ok (.invokevirtual 145, 3) := by decide +kernel
theorem dX5_add_77 : decode cX5_add 77 = .ok (.ireturn, 1) := by decide +kernel
set_option maxRecDepth 20000 in
theorem ggX5_multiply_X5_fitCell : GoodIn wsX5_multiply wsX5_fitCell := goodIn_r _ [9, 10, 11, 12, 13, 14, 15, 16, 17, 18, 19, 20, 21, 22, 23, 24, 25, 26, 27, 28, 29, 30, 31, 32, 33, 34, 35, 36, 37, 38, 39, 40, 41, 42, 8, 43, 44, 45, 46, 159, 160, 161, 162, 163, 164, 165, 166, 171] (by decide +kernel) (by decide +kernel)
set_option maxRecDepth 20000 in
theorem gX5_multiply_X5_fitCell : GoodIn wsX5_multiply (wsV RX5 102 RX5 yX5_fitCell wsX5_fitCell) := goodIn_app (goodIn_of _ (by decide +kernel)) ggX5_multiply_X5_fitCell
set_option maxRecDepth 20000 in
theorem ggX5_multiply_X4_make : GoodIn wsX5_multiply wsX4_make := goodIn_r _ [51, 52, 53, 54, 55, 56, 8, 57, 58, 59, 60, 50, 61, 62, 63, 64, 65, 66, 67, 68, 69, 42, 43, 44, 45, 46, 70, 71, 72, 73, 74, 75, 76, 77, 78, 79, 80, 81, 82, 83, 84, 85, 86, 87, 88, 89, 90, 91, 92, 93, 94, 95, 96, 97, 98, 99, 100, 101, 102, 103, 104, 105, 106, 107, 108, 109, 110, 111, 112, 113, 114, 167, 168, 169, 170, 172, 173] (by decide +kernel) (by decide +kernel)
set_option maxRecDepth 20000 in
theorem gX5_multiply_X4_make : GoodIn wsX5_multiply (wsV RX5 109 RX4 yX4_make wsX4_make) := goodIn_app (goodIn_of _ (by decide +kernel)) ggX5_multiply_X4_make
set_option maxRecDepth 20000 in
theorem ggX5_multiply_X2_measure : GoodIn wsX5_multiply wsX2_measure := goodIn_r _ [118, 76, 75, 89, 90, 91, 92, 119, 120, 83, 121, 56, 8, 57, 172, 173] (by decide +kernel) (by decide +kernel)
set_option maxRecDepth 20000 in
theorem gX5_multiply_X2_measure : GoodIn wsX5_multiply (wsV RX5 148 RX2 yX2_measure wsX2_measure) := goodIn_app (goodIn_of _ (by decide +kernel)) ggX5_multiply_X2_measure
set_option maxRecDepth 20000 in
theorem ggX5_multiply_X2_filled : GoodIn wsX5_multiply wsX2_filled := goodIn_r _ [125, 75, 172, 173] (by decide +kernel) (by decide +kernel)
set_option maxRecDepth 20000 in
theorem gX5_multiply_X2_filled : GoodIn wsX5_multiply (wsV RX5 119 RX2 yX2_filled wsX2_filled) := goodIn_app (goodIn_of _ (by decide +kernel)) ggX5_multiply_X2_filled
set_option maxRecDepth 20000 in
theorem ggX5_multiply_X2_hasRoomFor : GoodIn wsX5_multiply wsX2_hasRoomFor := goodIn_r _ [129, 76, 172, 173] (by decide +kernel) (by decide +kernel)
set_option maxRecDepth 20000 in
theorem gX5_multiply_X2_hasRoomFor : GoodIn wsX5_multiply (wsV RX5 151 RX2 yX2_hasRoomFor wsX2_hasRoomFor) := goodIn_app (goodIn_of _ (by decide +kernel)) ggX5_multiply_X2_hasRoomFor
set_option maxRecDepth 20000 in
theorem ggX5_multiply_X2_becomeProduct : GoodIn wsX5_multiply wsX2_becomeProduct := goodIn_r _ [133, 75, 77, 78, 79, 73, 80, 81, 82, 83, 84, 172, 173] (by decide +kernel) (by decide +kernel)
set_option maxRecDepth 20000 in
theorem gX5_multiply_X2_becomeProduct : GoodIn wsX5_multiply (wsV RX5 155 RX2 yX2_becomeProduct wsX2_becomeProduct) := goodIn_app (goodIn_of _ (by decide +kernel)) ggX5_multiply_X2_becomeProduct
set_option maxRecDepth 20000 in
theorem ggX5_multiply_X5_takeDraft : GoodIn wsX5_multiply wsX5_takeDraft := goodIn_r _ [137, 4, 2, 138, 139, 140, 141, 73, 142, 75, 143, 144, 145, 146, 147, 148, 149, 150, 151, 152, 153, 154, 155, 156, 157, 158, 122, 123, 124, 125, 159, 160, 161, 162, 163, 164, 165, 166, 172, 173, 174, 175, 176] (by decide +kernel) (by decide +kernel)
set_option maxRecDepth 20000 in
theorem gX5_multiply_X5_takeDraft : GoodIn wsX5_multiply (wsV RX5 145 RX5 yX5_takeDraft wsX5_takeDraft) := goodIn_app (goodIn_of _ (by decide +kernel)) ggX5_multiply_X5_takeDraft
theorem dX5_multiply_0 : decode cX5_multiply 0 = .ok (.aload_n 0, 1) := by decide +kernel
theorem dX5_multiply_1 : decode cX5_multiply 1 = .ok (.iload_n 1, 1) := by decide +kernel
theorem dX5_multiply_2 : decode cX5_multiply 2 = .ok (.invokevirtual 102, 3) := by decide +kernel
theorem dX5_multiply_5 : decode cX5_multiply 5 = .ok (.istore_n 2, 1) := by decide +kernel
theorem dX5_multiply_6 : decode cX5_multiply 6 = .ok (.iload_n 2, 1) := by decide +kernel
theorem dX5_multiply_7 : decode cX5_multiply 7 = .ok (.ifCond .ge 5, 3) := by decide +kernel
theorem dX5_multiply_10 : decode cX5_multiply 10 = .ok (.iload_n 2, 1) := by decide +kernel
theorem dX5_multiply_11 : decode cX5_multiply 11 = .ok (.ireturn, 1) := by decide +kernel
theorem dX5_multiply_12 : decode cX5_multiply 12 = .ok (.aload_n 0, 1) := by decide +kernel
theorem dX5_multiply_13 : decode cX5_multiply 13 = .ok (.getfield 46, 3) := by decide +kernel
theorem dX5_multiply_16 : decode cX5_multiply 16 = .ok (.iload_n 2, 1) := by decide +kernel
theorem dX5_multiply_17 : decode cX5_multiply 17 = .ok (.invokevirtual 109, 3) := by decide +kernel
theorem dX5_multiply_20 : decode cX5_multiply 20 = .ok (.aload_n 0, 1) := by decide +kernel
theorem dX5_multiply_21 : decode cX5_multiply 21 = .ok (.getfield 36, 3) := by decide +kernel
theorem dX5_multiply_24 : decode cX5_multiply 24 = .ok (.invokevirtual 148, 3) := by decide +kernel
theorem dX5_multiply_27 : decode cX5_multiply 27 = .ok (.aload_n 0, 1) := by decide +kernel
theorem dX5_multiply_28 : decode cX5_multiply 28 = .ok (.getfield 46, 3) := by decide +kernel
theorem dX5_multiply_31 : decode cX5_multiply 31 = .ok (.getfield 112, 3) := by decide +kernel
theorem dX5_multiply_34 : decode cX5_multiply 34 = .ok (.invokevirtual 148, 3) := by decide +kernel
theorem dX5_multiply_37 : decode cX5_multiply 37 = .ok (.aload_n 0, 1) := by decide +kernel
theorem dX5_multiply_38 : decode cX5_multiply 38 = .ok (.getfield 36, 3) := by decide +kernel
theorem dX5_multiply_41 : decode cX5_multiply 41 = .ok (.invokevirtual 119, 3) := by decide +kernel
theorem dX5_multiply_44 : decode cX5_multiply 44 = .ok (.ifCond .ne 5, 3) := by decide +kernel
theorem dX5_multiply_47 : decode cX5_multiply 47 = .ok (.iconst 0, 1) := by decide +kernel
theorem dX5_multiply_48 : decode cX5_multiply 48 = .ok (.ireturn, 1) := by decide +kernel
theorem dX5_multiply_49 : decode cX5_multiply 49 = .ok (.aload_n 0, 1) := by decide +kernel
theorem dX5_multiply_50 : decode cX5_multiply 50 = .ok (.getfield 36, 3) := by decide +kernel
theorem dX5_multiply_53 : decode cX5_multiply 53 = .ok (.aload_n 0, 1) := by decide +kernel
theorem dX5_multiply_54 : decode cX5_multiply 54 = .ok (.getfield 46, 3) := by decide +kernel
theorem dX5_multiply_57 : decode cX5_multiply 57 = .ok (.getfield 112, 3) := by decide +kernel
theorem dX5_multiply_60 : decode cX5_multiply 60 = .ok (.invokevirtual 151, 3) := by decide +kernel
theorem dX5_multiply_63 : decode cX5_multiply 63 = .ok (.ifCond .ne 6, 3) := by decide +kernel
theorem dX5_multiply_66 : decode cX5_multiply 66 = .ok (.bipush (-5), 2) := by decide +kernel
theorem dX5_multiply_68 : decode cX5_multiply 68 = .ok (.ireturn, 1) := by decide +kernel
theorem dX5_multiply_69 : decode cX5_multiply 69 = .ok (.aload_n 0, 1) := by decide +kernel
theorem dX5_multiply_70 : decode cX5_multiply 70 = .ok (.getfield 40, 3) := by decide +kernel
theorem dX5_multiply_73 : decode cX5_multiply 73 = .ok (.aload_n 0, 1) := by decide +kernel
theorem dX5_multiply_74 : decode cX5_multiply 74 = .ok (.getfield 36, 3) := by decide +kernel
theorem dX5_multiply_77 : decode cX5_multiply 77 = .ok (.aload_n 0, 1) := by decide +kernel
theorem dX5_multiply_78 : decode cX5_multiply 78 = .ok (.getfield 46, 3) := by decide +kernel
theorem dX5_multiply_81 : decode cX5_multiply 81 = .ok (.getfield 112, 3) := by decide +kernel
theorem dX5_multiply_84 : decode cX5_multiply 84 = .ok (.invokevirtual 155, 3) := by decide +kernel
theorem dX5_multiply_87 : decode cX5_multiply 87 = .ok (.aload_n 0, 1) := by decide +kernel
theorem dX5_multiply_88 : decode cX5_multiply 88 = .ok (.invokevirtual 145, 3) := by decide +kernel
theorem dX5_multiply_91 : decode cX5_multiply 91 = .ok (.ireturn, 1) := by decide +kernel
set_option maxRecDepth 20000 in
theorem ggX5_difference_X2_copy : GoodIn wsX5_difference wsX2_copy := goodIn_r _ [7, 8, 9, 10, 11, 12, 88, 89] (by decide +kernel) (by decide +kernel)
set_option maxRecDepth 20000 in
theorem gX5_difference_X2_copy : GoodIn wsX5_difference (wsV RX5 137 RX2 yX2_copy wsX2_copy) := goodIn_app (goodIn_of _ (by decide +kernel)) ggX5_difference_X2_copy
set_option maxRecDepth 20000 in
theorem ggX5_difference_X2_measure : GoodIn wsX5_difference wsX2_measure := goodIn_r _ [16, 17, 8, 18, 19, 20, 21, 22, 23, 24, 25, 26, 27, 28, 88, 89] (by decide +kernel) (by decide +kernel)
set_option maxRecDepth 20000 in
theorem gX5_difference_X2_measure : GoodIn wsX5_difference (wsV RX5 148 RX2 yX2_measure wsX2_measure) := goodIn_app (goodIn_of _ (by decide +kernel)) ggX5_difference_X2_measure
set_option maxRecDepth 20000 in
theorem ggX5_difference_X2_degreeBound : GoodIn wsX5_difference wsX2_degreeBound := goodIn_r _ [32, 17, 88, 89] (by decide +kernel) (by decide +kernel)
set_option maxRecDepth 20000 in
theorem gX5_difference_X2_degreeBound : GoodIn wsX5_difference (wsV RX5 158 RX2 yX2_degreeBound wsX2_degreeBound) := goodIn_app (goodIn_of _ (by decide +kernel)) ggX5_difference_X2_degreeBound
set_option maxRecDepth 20000 in
theorem ggX5_difference_X2_differ : GoodIn wsX5_difference wsX2_differ := goodIn_r _ [36, 17, 18, 19, 20, 21, 37, 38, 39, 6, 40, 41, 42, 43, 44, 45, 46, 47, 48, 49, 50, 51, 52, 53, 54, 8, 55, 56, 57, 58, 88, 89] (by decide +kernel) (by decide +kernel)
set_option maxRecDepth 20000 in
theorem gX5_difference_X2_differ : GoodIn wsX5_difference (wsV RX5 161 RX2 yX2_differ wsX2_differ) := goodIn_app (goodIn_of _ (by decide +kernel)) ggX5_difference_X2_differ
set_option maxRecDepth 20000 in
theorem ggX5_difference_X5_takeDraft : GoodIn wsX5_difference wsX5_takeDraft := goodIn_r _ [62, 1, 2, 63, 64, 65, 66, 6, 67, 8, 68, 69, 3, 4, 5, 7, 9, 10, 11, 12, 70, 71, 72, 73, 74, 75, 76, 77, 78, 79, 80, 81, 82, 83, 84, 85, 86, 87, 88, 89, 90, 91, 92] (by decide +kernel) (by decide +kernel)
set_option maxRecDepth 20000 in
theorem gX5_difference_X5_takeDraft : GoodIn wsX5_difference (wsV RX5 145 RX5 yX5_takeDraft wsX5_takeDraft) := goodIn_app (goodIn_of _ (by decide +kernel)) ggX5_difference_X5_takeDraft
theorem dX5_difference_0 : decode cX5_difference 0 = .ok (.iload_n 1, 1) := by decide +kernel
theorem dX5_difference_1 : decode cX5_difference 1 = .ok (.iconst 1, 1) := by decide +kernel
theorem dX5_difference_2 : decode cX5_difference 2 = .ok (.if_icmp .lt 8, 3) := by decide +kernel
theorem dX5_difference_5 : decode cX5_difference 5 = .ok (.iload_n 1, 1) := by decide +kernel
theorem dX5_difference_6 : decode cX5_difference 6 = .ok (.iconst 4, 1) := by decide +kernel
theorem dX5_difference_7 : decode cX5_difference 7 = .ok (.if_icmp .lt 6, 3) := by decide +kernel
theorem dX5_difference_10 : decode cX5_difference 10 = .ok (.bipush (-2), 2) := by decide +kernel
theorem dX5_difference_12 : decode cX5_difference 12 = .ok (.ireturn, 1) := by decide +kernel
theorem dX5_difference_13 : decode cX5_difference 13 = .ok (.aload_n 0, 1) := by decide +kernel
theorem dX5_difference_14 : decode cX5_difference 14 = .ok (.getfield 40, 3) := by decide +kernel
theorem dX5_difference_17 : decode cX5_difference 17 = .ok (.aload_n 0, 1) := by decide +kernel
theorem dX5_difference_18 : decode cX5_difference 18 = .ok (.getfield 36, 3) := by decide +kernel
theorem dX5_difference_21 : decode cX5_difference 21 = .ok (.invokevirtual 137, 3) := by decide +kernel
theorem dX5_difference_24 : decode cX5_difference 24 = .ok (.aload_n 0, 1) := by decide +kernel
theorem dX5_difference_25 : decode cX5_difference 25 = .ok (.getfield 40, 3) := by decide +kernel
theorem dX5_difference_28 : decode cX5_difference 28 = .ok (.invokevirtual 148, 3) := by decide +kernel
theorem dX5_difference_31 : decode cX5_difference 31 = .ok (.aload_n 0, 1) := by decide +kernel
theorem dX5_difference_32 : decode cX5_difference 32 = .ok (.getfield 40, 3) := by decide +kernel
theorem dX5_difference_35 : decode cX5_difference 35 = .ok (.iload_n 1, 1) := by decide +kernel
theorem dX5_difference_36 : decode cX5_difference 36 = .ok (.iconst 0, 1) := by decide +kernel
theorem dX5_difference_37 : decode cX5_difference 37 = .ok (.aload_n 0, 1) := by decide +kernel
theorem dX5_difference_38 : decode cX5_difference 38 = .ok (.getfield 40, 3) := by decide +kernel
theorem dX5_difference_41 : decode cX5_difference 41 = .ok (.invokevirtual 158, 3) := by decide +kernel
theorem dX5_difference_44 : decode cX5_difference 44 = .ok (.invokevirtual 161, 3) := by decide +kernel
theorem dX5_difference_47 : decode cX5_difference 47 = .ok (.aload_n 0, 1) := by decide +kernel
theorem dX5_difference_48 : decode cX5_difference 48 = .ok (.invokevirtual 145, 3) := by decide +kernel
theorem dX5_difference_51 : decode cX5_difference 51 = .ok (.ireturn, 1) := by decide +kernel
set_option maxRecDepth 20000 in
theorem ggX5_sheet_X5_isAnyNegative : GoodIn wsX5_sheet wsX5_isAnyNegative := goodIn_r _ [6] (by decide +kernel) (by decide +kernel)
set_option maxRecDepth 20000 in
theorem gX5_sheet_X5_isAnyNegative : GoodIn wsX5_sheet (va_wsS RX5 105 yX5_isAnyNegative wsX5_isAnyNegative) := goodIn_app (goodIn_of _ (by decide +kernel)) ggX5_sheet_X5_isAnyNegative
set_option maxRecDepth 20000 in
theorem ggX5_sheet_X5_cellOf : GoodIn wsX5_sheet wsX5_cellOf := goodIn_r _ [9, 3, 4, 5, 6] (by decide +kernel) (by decide +kernel)
set_option maxRecDepth 20000 in
theorem gX5_sheet_X5_cellOf : GoodIn wsX5_sheet (va_wsS RX5 83 yX5_cellOf wsX5_cellOf) := goodIn_app (goodIn_of _ (by decide +kernel)) ggX5_sheet_X5_cellOf
set_option maxRecDepth 20000 in
theorem ggX5_sheet_X2_at : GoodIn wsX5_sheet wsX2_at := goodIn_r _ [14, 15, 24, 25] (by decide +kernel) (by decide +kernel)
set_option maxRecDepth 20000 in
theorem gX5_sheet_X2_at : GoodIn wsX5_sheet (wsV RX5 115 RX2 yX2_at wsX2_at) := goodIn_app (goodIn_of _ (by decide +kernel)) ggX5_sheet_X2_at
theorem dX5_sheet_0 : decode cX5_sheet 0 = .ok (.iload_n 1, 1) := by decide +kernel
theorem dX5_sheet_1 : decode cX5_sheet 1 = .ok (.iload_n 2, 1) := by decide +kernel
theorem dX5_sheet_2 : decode cX5_sheet 2 = .ok (.iload_n 3, 1) := by decide +kernel
theorem dX5_sheet_3 : decode cX5_sheet 3 = .ok (.iload 4, 2) := by decide +kernel
theorem dX5_sheet_5 : decode cX5_sheet 5 = .ok (.invokestatic 105, 3) := by decide +kernel
theorem dX5_sheet_8 : decode cX5_sheet 8 = .ok (.ifCond .eq 7, 3) := by decide +kernel
theorem dX5_sheet_11 : decode cX5_sheet 11 = .ok (.ldc2_w 125, 3) := by decide +kernel
theorem dX5_sheet_14 : decode cX5_sheet 14 = .ok (.lreturn, 1) := by decide +kernel
theorem dX5_sheet_15 : decode cX5_sheet 15 = .ok (.aload_n 0, 1) := by decide +kernel
theorem dX5_sheet_16 : decode cX5_sheet 16 = .ok (.getfield 36, 3) := by decide +kernel
theorem dX5_sheet_19 : decode cX5_sheet 19 = .ok (.iload_n 1, 1) := by decide +kernel
theorem dX5_sheet_20 : decode cX5_sheet 20 = .ok (.iload_n 2, 1) := by decide +kernel
theorem dX5_sheet_21 : decode cX5_sheet 21 = .ok (.iload_n 3, 1) := by decide +kernel
theorem dX5_sheet_22 : decode cX5_sheet 22 = .ok (.iload 4, 2) := by decide +kernel
theorem dX5_sheet_24 : decode cX5_sheet 24 = .ok (.invokestatic 83, 3) := by decide +kernel
theorem dX5_sheet_27 : decode cX5_sheet 27 = .ok (.invokevirtual 115, 3) := by decide +kernel
theorem dX5_sheet_30 : decode cX5_sheet 30 = .ok (.lreturn, 1) := by decide +kernel
set_option maxRecDepth 20000 in
theorem ggX5_part_X3_find : GoodIn wsX5_part wsX3_find := goodIn_r _ [10, 11, 12, 13, 14, 15, 16, 17, 18, 19, 20, 21, 22, 23, 24, 25, 26, 27, 28, 29, 30, 31, 32, 33, 34, 35, 36, 37, 38, 39, 40, 41, 42, 43, 44, 45, 46, 47, 48, 49, 50, 51, 52, 53, 54, 55, 56, 57, 58, 59, 60, 61, 62, 63, 64, 65, 66, 67, 68, 69, 70, 71, 72, 73, 74, 75, 76, 77, 78, 79, 80, 81, 82, 83, 84, 85, 86, 87, 88, 89, 90, 91, 92, 93, 94, 95, 96, 97, 98, 99, 100, 101, 102, 103, 104, 105, 106, 107, 108, 109, 110, 111, 112, 113, 114, 115, 116, 117, 118, 119, 120, 121, 122, 123, 124, 125, 126, 127, 128, 129, 130, 143, 144, 145, 146, 147, 148, 149, 150, 151, 152, 153, 154] (by decide +kernel) (by decide +kernel)
set_option maxRecDepth 20000 in
theorem gX5_part_X3_find : GoodIn wsX5_part (wsV RX5 165 RX3 yX3_find wsX3_find) := goodIn_app (goodIn_of _ (by decide +kernel)) ggX5_part_X3_find
set_option maxRecDepth 20000 in
theorem ggX5_part_X0_answer : GoodIn wsX5_part wsX0_answer := goodIn_r _ [134, 30, 129, 152, 153] (by decide +kernel) (by decide +kernel)
set_option maxRecDepth 20000 in
theorem gX5_part_X0_answer : GoodIn wsX5_part (wsV RX5 172 RX0 yX0_answer wsX0_answer) := goodIn_app (goodIn_of _ (by decide +kernel)) ggX5_part_X0_answer
theorem dX5_part_0 : decode cX5_part 0 = .ok (.iload_n 1, 1) := by decide +kernel
theorem dX5_part_1 : decode cX5_part 1 = .ok (.iconst (-1), 1) := by decide +kernel
theorem dX5_part_2 : decode cX5_part 2 = .ok (.if_icmp .ge 6, 3) := by decide +kernel
theorem dX5_part_5 : decode cX5_part 5 = .ok (.bipush (-2), 2) := by decide +kernel
theorem dX5_part_7 : decode cX5_part 7 = .ok (.ireturn, 1) := by decide +kernel
theorem dX5_part_8 : decode cX5_part 8 = .ok (.aload_n 0, 1) := by decide +kernel
theorem dX5_part_9 : decode cX5_part 9 = .ok (.getfield 53, 3) := by decide +kernel
theorem dX5_part_12 : decode cX5_part 12 = .ok (.aload_n 0, 1) := by decide +kernel
theorem dX5_part_13 : decode cX5_part 13 = .ok (.getfield 36, 3) := by decide +kernel
theorem dX5_part_16 : decode cX5_part 16 = .ok (.aload_n 0, 1) := by decide +kernel
theorem dX5_part_17 : decode cX5_part 17 = .ok (.getfield 46, 3) := by decide +kernel
theorem dX5_part_20 : decode cX5_part 20 = .ok (.aload_n 0, 1) := by decide +kernel
theorem dX5_part_21 : decode cX5_part 21 = .ok (.getfield 12, 3) := by decide +kernel
theorem dX5_part_24 : decode cX5_part 24 = .ok (.invokevirtual 165, 3) := by decide +kernel
theorem dX5_part_27 : decode cX5_part 27 = .ok (.aload_n 0, 1) := by decide +kernel
theorem dX5_part_28 : decode cX5_part 28 = .ok (.getfield 53, 3) := by decide +kernel
theorem dX5_part_31 : decode cX5_part 31 = .ok (.getfield 169, 3) := by decide +kernel
theorem dX5_part_34 : decode cX5_part 34 = .ok (.iload_n 1, 1) := by decide +kernel
theorem dX5_part_35 : decode cX5_part 35 = .ok (.invokevirtual 172, 3) := by decide +kernel
theorem dX5_part_38 : decode cX5_part 38 = .ok (.ireturn, 1) := by decide +kernel
set_option maxRecDepth 20000 in
theorem ggX5_times_X5_fitCell : GoodIn wsX5_times wsX5_fitCell := goodIn_r _ [11, 5, 12, 13, 14, 15, 16, 17, 18, 19, 20, 21, 22, 23, 24, 25, 26, 27, 28, 29, 30, 31, 32, 33, 34, 35, 36, 37, 38, 39, 40, 41, 42, 43, 10, 44, 45, 46, 47, 166, 167, 168, 169, 170, 171, 172, 173, 177] (by decide +kernel) (by decide +kernel)
set_option maxRecDepth 20000 in
theorem gX5_times_X5_fitCell : GoodIn wsX5_times (wsV RX5 102 RX5 yX5_fitCell wsX5_fitCell) := goodIn_app (goodIn_of _ (by decide +kernel)) ggX5_times_X5_fitCell
set_option maxRecDepth 20000 in
theorem ggX5_times_X3_find : GoodIn wsX5_times wsX3_find := goodIn_r _ [52, 53, 54, 55, 56, 57, 58, 59, 60, 61, 62, 63, 64, 65, 66, 67, 68, 69, 70, 71, 72, 73, 74, 75, 76, 77, 78, 79, 80, 81, 82, 83, 84, 85, 86, 10, 87, 88, 89, 90, 91, 92, 93, 94, 95, 96, 97, 98, 99, 43, 44, 45, 46, 47, 100, 101, 102, 103, 104, 105, 106, 107, 108, 109, 110, 111, 112, 113, 114, 115, 116, 117, 118, 119, 120, 121, 122, 123, 124, 125, 126, 127, 128, 129, 130, 131, 132, 133, 134, 135, 136, 137, 138, 139, 140, 141, 142, 143, 144, 145, 146, 15, 147, 18, 148, 149, 150, 151, 152, 153, 154, 155, 156, 157, 158, 159, 160, 161, 162, 163, 164, 174, 175, 176, 178, 179, 180, 181, 182, 183, 184, 185, 177] (by decide +kernel) (by decide +kernel)
set_option maxRecDepth 20000 in
theorem gX5_times_X3_find : GoodIn wsX5_times (wsV RX5 165 RX3 yX3_find wsX3_find) := goodIn_app (goodIn_of _ (by decide +kernel)) ggX5_times_X3_find
set_option maxRecDepth 20000 in
theorem ggX5_times_X2_at : GoodIn wsX5_times wsX2_at := goodIn_r _ [76, 62, 182, 183] (by decide +kernel) (by decide +kernel)
set_option maxRecDepth 20000 in
theorem gX5_times_X2_at : GoodIn wsX5_times (wsV RX5 115 RX2 yX2_at wsX2_at) := goodIn_app (goodIn_of _ (by decide +kernel)) ggX5_times_X2_at
theorem dX5_times_0 : decode cX5_times 0 = .ok (.aload_n 0, 1) := by decide +kernel
theorem dX5_times_1 : decode cX5_times 1 = .ok (.iload_n 1, 1) := by decide +kernel
theorem dX5_times_2 : decode cX5_times 2 = .ok (.invokevirtual 102, 3) := by decide +kernel
theorem dX5_times_5 : decode cX5_times 5 = .ok (.istore_n 2, 1) := by decide +kernel
theorem dX5_times_6 : decode cX5_times 6 = .ok (.iload_n 2, 1) := by decide +kernel
theorem dX5_times_7 : decode cX5_times 7 = .ok (.ifCond .ge 7, 3) := by decide +kernel
theorem dX5_times_10 : decode cX5_times 10 = .ok (.ldc2_w 125, 3) := by decide +kernel
theorem dX5_times_13 : decode cX5_times 13 = .ok (.lreturn, 1) := by decide +kernel
theorem dX5_times_14 : decode cX5_times 14 = .ok (.aload_n 0, 1) := by decide +kernel
theorem dX5_times_15 : decode cX5_times 15 = .ok (.getfield 53, 3) := by decide +kernel
theorem dX5_times_18 : decode cX5_times 18 = .ok (.aload_n 0, 1) := by decide +kernel
theorem dX5_times_19 : decode cX5_times 19 = .ok (.getfield 36, 3) := by decide +kernel
theorem dX5_times_22 : decode cX5_times 22 = .ok (.aload_n 0, 1) := by decide +kernel
theorem dX5_times_23 : decode cX5_times 23 = .ok (.getfield 46, 3) := by decide +kernel
theorem dX5_times_26 : decode cX5_times 26 = .ok (.aload_n 0, 1) := by decide +kernel
theorem dX5_times_27 : decode cX5_times 27 = .ok (.getfield 12, 3) := by decide +kernel
theorem dX5_times_30 : decode cX5_times 30 = .ok (.invokevirtual 165, 3) := by decide +kernel
theorem dX5_times_33 : decode cX5_times 33 = .ok (.aload_n 0, 1) := by decide +kernel
theorem dX5_times_34 : decode cX5_times 34 = .ok (.getfield 53, 3) := by decide +kernel
theorem dX5_times_37 : decode cX5_times 37 = .ok (.getfield 175, 3) := by decide +kernel
theorem dX5_times_40 : decode cX5_times 40 = .ok (.iload_n 2, 1) := by decide +kernel
theorem dX5_times_41 : decode cX5_times 41 = .ok (.invokevirtual 115, 3) := by decide +kernel
theorem dX5_times_44 : decode cX5_times 44 = .ok (.lreturn, 1) := by decide +kernel
set_option maxRecDepth 20000 in
theorem ggX5_makes_X5_isCrossSet : GoodIn wsX5_makes wsX5_isCrossSet := goodIn_r _ [5] (by decide +kernel) (by decide +kernel)
set_option maxRecDepth 20000 in
theorem gX5_makes_X5_isCrossSet : GoodIn wsX5_makes (va_wsS RX5 178 yX5_isCrossSet wsX5_isCrossSet) := goodIn_app (goodIn_of _ (by decide +kernel)) ggX5_makes_X5_isCrossSet
set_option maxRecDepth 20000 in
theorem ggX5_makes_X1_becomeMade : GoodIn wsX5_makes wsX1_becomeMade := goodIn_r _ [10, 11, 12, 13, 9, 14, 15, 16, 17, 18, 19, 20, 21, 22, 23, 24, 25, 26, 27, 59] (by decide +kernel) (by decide +kernel)
set_option maxRecDepth 20000 in
theorem gX5_makes_X1_becomeMade : GoodIn wsX5_makes (wsV RX5 181 RX1 yX1_becomeMade wsX1_becomeMade) := goodIn_app (goodIn_of _ (by decide +kernel)) ggX5_makes_X1_becomeMade
set_option maxRecDepth 20000 in
theorem ggX5_makes_X1_inversions : GoodIn wsX5_makes wsX1_inversions := goodIn_r _ [31, 32, 33, 34, 9, 35, 20, 21, 22, 23, 15, 59] (by decide +kernel) (by decide +kernel)
set_option maxRecDepth 20000 in
theorem gX5_makes_X1_inversions : GoodIn wsX5_makes (wsV RX5 65 RX1 yX1_inversions wsX1_inversions) := goodIn_app (goodIn_of _ (by decide +kernel)) ggX5_makes_X1_inversions
set_option maxRecDepth 20000 in
theorem ggX5_makes_J6_bitCount_0f7a4 : GoodIn wsX5_makes wsJ6_bitCount_0f7a4 := goodIn_r _ [39, 40, 41, 42] (by decide +kernel) (by decide +kernel)
set_option maxRecDepth 20000 in
theorem gX5_makes_J6_bitCount_0f7a4 : GoodIn wsX5_makes (va_wsS RX5 184 yJ6_bitCount_0f7a4 wsJ6_bitCount_0f7a4) := goodIn_app (goodIn_of _ (by decide +kernel)) ggX5_makes_J6_bitCount_0f7a4
set_option maxRecDepth 20000 in
theorem ggX5_makes_X1_plainNumber : GoodIn wsX5_makes wsX1_plainNumber := goodIn_r _ [46, 15, 47, 48, 49, 9, 50, 59] (by decide +kernel) (by decide +kernel)
set_option maxRecDepth 20000 in
theorem gX5_makes_X1_plainNumber : GoodIn wsX5_makes (wsV RX5 61 RX1 yX1_plainNumber wsX1_plainNumber) := goodIn_app (goodIn_of _ (by decide +kernel)) ggX5_makes_X1_plainNumber
theorem dX5_makes_0 : decode cX5_makes 0 = .ok (.iload_n 1, 1) := by decide +kernel
theorem dX5_makes_1 : decode cX5_makes 1 = .ok (.invokestatic 178, 3) := by decide +kernel
theorem dX5_makes_4 : decode cX5_makes 4 = .ok (.ifCond .ne 6, 3) := by decide +kernel
theorem dX5_makes_7 : decode cX5_makes 7 = .ok (.bipush (-2), 2) := by decide +kernel
theorem dX5_makes_9 : decode cX5_makes 9 = .ok (.ireturn, 1) := by decide +kernel
theorem dX5_makes_10 : decode cX5_makes 10 = .ok (.aload_n 0, 1) := by decide +kernel
theorem dX5_makes_11 : decode cX5_makes 11 = .ok (.getfield 12, 3) := by decide +kernel
theorem dX5_makes_14 : decode cX5_makes 14 = .ok (.iload_n 1, 1) := by decide +kernel
theorem dX5_makes_15 : decode cX5_makes 15 = .ok (.invokevirtual 181, 3) := by decide +kernel
theorem dX5_makes_18 : decode cX5_makes 18 = .ok (.aload_n 0, 1) := by decide +kernel
theorem dX5_makes_19 : decode cX5_makes 19 = .ok (.getfield 12, 3) := by decide +kernel
theorem dX5_makes_22 : decode cX5_makes 22 = .ok (.invokevirtual 65, 3) := by decide +kernel
theorem dX5_makes_25 : decode cX5_makes 25 = .ok (.iload_n 1, 1) := by decide +kernel
theorem dX5_makes_26 : decode cX5_makes 26 = .ok (.invokestatic 184, 3) := by decide +kernel
theorem dX5_makes_29 : decode cX5_makes 29 = .ok (.if_icmp .ne 13, 3) := by decide +kernel
theorem dX5_makes_32 : decode cX5_makes 32 = .ok (.aload_n 0, 1) := by decide +kernel
theorem dX5_makes_33 : decode cX5_makes 33 = .ok (.getfield 12, 3) := by decide +kernel
theorem dX5_makes_36 : decode cX5_makes 36 = .ok (.invokevirtual 61, 3) := by decide +kernel
theorem dX5_makes_39 : decode cX5_makes 39 = .ok (.goto 5, 3) := by decide +kernel
theorem dX5_makes_42 : decode cX5_makes 42 = .ok (.bipush (-9), 2) := by decide +kernel
theorem dX5_makes_44 : decode cX5_makes 44 = .ok (.ireturn, 1) := by decide +kernel
set_option maxRecDepth 20000 in
theorem ggX5_dream_X1_read : GoodIn wsX5_dream wsX1_read := goodIn_r _ [6, 7, 8, 9, 10, 11, 5, 12, 70] (by decide +kernel) (by decide +kernel)
set_option maxRecDepth 20000 in
theorem gX5_dream_X1_read : GoodIn wsX5_dream (wsV RX5 57 RX1 yX1_read wsX1_read) := goodIn_app (goodIn_of _ (by decide +kernel)) ggX5_dream_X1_read
set_option maxRecDepth 20000 in
theorem ggX5_dream_X1_isSmall : GoodIn wsX5_dream wsX1_isSmall := goodIn_r _ [16, 17, 18, 19, 5, 20, 8, 70] (by decide +kernel) (by decide +kernel)
set_option maxRecDepth 20000 in
theorem gX5_dream_X1_isSmall : GoodIn wsX5_dream (wsV RX5 94 RX1 yX1_isSmall wsX1_isSmall) := goodIn_app (goodIn_of _ (by decide +kernel)) ggX5_dream_X1_isSmall
set_option maxRecDepth 20000 in
theorem ggX5_dream_X1_inversions : GoodIn wsX5_dream wsX1_inversions := goodIn_r _ [24, 25, 26, 27, 5, 28, 29, 30, 31, 32, 8, 70] (by decide +kernel) (by decide +kernel)
set_option maxRecDepth 20000 in
theorem gX5_dream_X1_inversions : GoodIn wsX5_dream (wsV RX5 65 RX1 yX1_inversions wsX1_inversions) := goodIn_app (goodIn_of _ (by decide +kernel)) ggX5_dream_X1_inversions
set_option maxRecDepth 20000 in
theorem ggX5_dream_J6_bitCount_0f7a4 : GoodIn wsX5_dream wsJ6_bitCount_0f7a4 := goodIn_r _ [36, 37, 38, 39] (by decide +kernel) (by decide +kernel)
set_option maxRecDepth 20000 in
theorem gX5_dream_J6_bitCount_0f7a4 : GoodIn wsX5_dream (va_wsS RX5 184 yJ6_bitCount_0f7a4 wsJ6_bitCount_0f7a4) := goodIn_app (goodIn_of _ (by decide +kernel)) ggX5_dream_J6_bitCount_0f7a4
set_option maxRecDepth 20000 in
theorem ggX5_dream_X5_isMadeBy : GoodIn wsX5_dream wsX5_isMadeBy := goodIn_r _ [44, 45, 46, 47, 48, 5, 49, 9, 10, 11, 12, 8, 50, 51, 52, 53, 29, 30, 31, 32, 54, 55, 56, 57, 58, 59, 60, 61, 62, 63, 64, 65, 66, 67, 68, 69, 70] (by decide +kernel) (by decide +kernel)
set_option maxRecDepth 20000 in
theorem gX5_dream_X5_isMadeBy : GoodIn wsX5_dream (wsV RX5 189 RX5 yX5_isMadeBy wsX5_isMadeBy) := goodIn_app (goodIn_of _ (by decide +kernel)) ggX5_dream_X5_isMadeBy
theorem dX5_dream_0 : decode cX5_dream 0 = .ok (.aload_n 0, 1) := by decide +kernel
theorem dX5_dream_1 : decode cX5_dream 1 = .ok (.getfield 12, 3) := by decide +kernel
theorem dX5_dream_4 : decode cX5_dream 4 = .ok (.iload_n 1, 1) := by decide +kernel
theorem dX5_dream_5 : decode cX5_dream 5 = .ok (.invokevirtual 57, 3) := by decide +kernel
theorem dX5_dream_8 : decode cX5_dream 8 = .ok (.ifCond .eq 8, 3) := by decide +kernel
theorem dX5_dream_11 : decode cX5_dream 11 = .ok (.iload_n 2, 1) := by decide +kernel
theorem dX5_dream_12 : decode cX5_dream 12 = .ok (.iconst (-1), 1) := by decide +kernel
theorem dX5_dream_13 : decode cX5_dream 13 = .ok (.if_icmp .ge 6, 3) := by decide +kernel
theorem dX5_dream_16 : decode cX5_dream 16 = .ok (.bipush (-2), 2) := by decide +kernel
theorem dX5_dream_18 : decode cX5_dream 18 = .ok (.ireturn, 1) := by decide +kernel
theorem dX5_dream_19 : decode cX5_dream 19 = .ok (.aload_n 0, 1) := by decide +kernel
theorem dX5_dream_20 : decode cX5_dream 20 = .ok (.getfield 12, 3) := by decide +kernel
theorem dX5_dream_23 : decode cX5_dream 23 = .ok (.invokevirtual 94, 3) := by decide +kernel
theorem dX5_dream_26 : decode cX5_dream 26 = .ok (.ifCond .ne 6, 3) := by decide +kernel
theorem dX5_dream_29 : decode cX5_dream 29 = .ok (.bipush (-3), 2) := by decide +kernel
theorem dX5_dream_31 : decode cX5_dream 31 = .ok (.ireturn, 1) := by decide +kernel
theorem dX5_dream_32 : decode cX5_dream 32 = .ok (.aload_n 0, 1) := by decide +kernel
theorem dX5_dream_33 : decode cX5_dream 33 = .ok (.getfield 12, 3) := by decide +kernel
theorem dX5_dream_36 : decode cX5_dream 36 = .ok (.invokevirtual 65, 3) := by decide +kernel
theorem dX5_dream_39 : decode cX5_dream 39 = .ok (.istore_n 3, 1) := by decide +kernel
theorem dX5_dream_40 : decode cX5_dream 40 = .ok (.iconst 0, 1) := by decide +kernel
theorem dX5_dream_41 : decode cX5_dream 41 = .ok (.istore 4, 2) := by decide +kernel
theorem dX5_dream_43 : decode cX5_dream 43 = .ok (.iconst 0, 1) := by decide +kernel
theorem dX5_dream_44 : decode cX5_dream 44 = .ok (.istore 5, 2) := by decide +kernel
theorem dX5_dream_46 : decode cX5_dream 46 = .ok (.iload 5, 2) := by decide +kernel
theorem dX5_dream_48 : decode cX5_dream 48 = .ok (.sipush 1024, 3) := by decide +kernel
theorem dX5_dream_51 : decode cX5_dream 51 = .ok (.if_icmp .ge 43, 3) := by decide +kernel
theorem dX5_dream_54 : decode cX5_dream 54 = .ok (.iload 5, 2) := by decide +kernel
theorem dX5_dream_56 : decode cX5_dream 56 = .ok (.invokestatic 184, 3) := by decide +kernel
theorem dX5_dream_59 : decode cX5_dream 59 = .ok (.iload_n 3, 1) := by decide +kernel
theorem dX5_dream_60 : decode cX5_dream 60 = .ok (.if_icmp .ne 28, 3) := by decide +kernel
theorem dX5_dream_63 : decode cX5_dream 63 = .ok (.aload_n 0, 1) := by decide +kernel
theorem dX5_dream_64 : decode cX5_dream 64 = .ok (.aload_n 0, 1) := by decide +kernel
theorem dX5_dream_65 : decode cX5_dream 65 = .ok (.getfield 12, 3) := by decide +kernel
theorem dX5_dream_68 : decode cX5_dream 68 = .ok (.iload 5, 2) := by decide +kernel
theorem dX5_dream_70 : decode cX5_dream 70 = .ok (.invokevirtual 189, 3) := by decide +kernel
theorem dX5_dream_73 : decode cX5_dream 73 = .ok (.ifCond .eq 15, 3) := by decide +kernel
theorem dX5_dream_76 : decode cX5_dream 76 = .ok (.iload 4, 2) := by decide +kernel
theorem dX5_dream_78 : decode cX5_dream 78 = .ok (.iload_n 2, 1) := by decide +kernel
theorem dX5_dream_79 : decode cX5_dream 79 = .ok (.if_icmp .ne 6, 3) := by decide +kernel
theorem dX5_dream_82 : decode cX5_dream 82 = .ok (.iload 5, 2) := by decide +kernel
theorem dX5_dream_84 : decode cX5_dream 84 = .ok (.ireturn, 1) := by decide +kernel
theorem dX5_dream_85 : decode cX5_dream 85 = .ok (.iinc 4 1, 3) := by decide +kernel
theorem dX5_dream_88 : decode cX5_dream 88 = .ok (.iinc 5 1, 3) := by decide +kernel
theorem dX5_dream_91 : decode cX5_dream 91 = .ok (.goto (-45), 3) := by decide +kernel
theorem dX5_dream_94 : decode cX5_dream 94 = .ok (.iload_n 2, 1) := by decide +kernel
theorem dX5_dream_95 : decode cX5_dream 95 = .ok (.iconst (-1), 1) := by decide +kernel
theorem dX5_dream_96 : decode cX5_dream 96 = .ok (.if_icmp .ne 8, 3) := by decide +kernel
theorem dX5_dream_99 : decode cX5_dream 99 = .ok (.iload 4, 2) := by decide +kernel
theorem dX5_dream_101 : decode cX5_dream 101 = .ok (.goto 5, 3) := by decide +kernel
theorem dX5_dream_104 : decode cX5_dream 104 = .ok (.bipush (-9), 2) := by decide +kernel
theorem dX5_dream_106 : decode cX5_dream 106 = .ok (.ireturn, 1) := by decide +kernel
set_option maxRecDepth 20000 in
theorem ggX5_ladder_X5_isCrossSet : GoodIn wsX5_ladder wsX5_isCrossSet := goodIn_r _ [5] (by decide +kernel) (by decide +kernel)
set_option maxRecDepth 20000 in
theorem gX5_ladder_X5_isCrossSet : GoodIn wsX5_ladder (va_wsS RX5 178 yX5_isCrossSet wsX5_isCrossSet) := goodIn_app (goodIn_of _ (by decide +kernel)) ggX5_ladder_X5_isCrossSet
set_option maxRecDepth 20000 in
theorem ggX5_ladder_X0_clear : GoodIn wsX5_ladder wsX0_clear := goodIn_r _ [10, 11, 44, 45] (by decide +kernel) (by decide +kernel)
set_option maxRecDepth 20000 in
theorem gX5_ladder_X0_clear : GoodIn wsX5_ladder (wsV RX5 193 RX0 yX0_clear wsX0_clear) := goodIn_app (goodIn_of _ (by decide +kernel)) ggX5_ladder_X0_clear
set_option maxRecDepth 20000 in
theorem ggX5_ladder_X5_putLadder : GoodIn wsX5_ladder wsX5_putLadder := goodIn_r _ [15, 1, 16, 17, 4, 18, 19, 20, 21, 22, 23, 24, 25, 9, 26, 11, 27, 28, 29, 30, 31, 36, 37, 38, 39, 40, 41, 42, 43, 44, 45] (by decide +kernel) (by decide +kernel)
set_option maxRecDepth 20000 in
theorem gX5_ladder_X5_putLadder : GoodIn wsX5_ladder (wsV RX5 194 RX5 yX5_putLadder wsX5_putLadder) := goodIn_app (goodIn_of _ (by decide +kernel)) ggX5_ladder_X5_putLadder
set_option maxRecDepth 20000 in
theorem ggX5_ladder_X0_answer : GoodIn wsX5_ladder wsX0_answer := goodIn_r _ [35, 11, 27, 44, 45] (by decide +kernel) (by decide +kernel)
set_option maxRecDepth 20000 in
theorem gX5_ladder_X0_answer : GoodIn wsX5_ladder (wsV RX5 172 RX0 yX0_answer wsX0_answer) := goodIn_app (goodIn_of _ (by decide +kernel)) ggX5_ladder_X0_answer
theorem dX5_ladder_0 : decode cX5_ladder 0 = .ok (.iload_n 1, 1) := by decide +kernel
theorem dX5_ladder_1 : decode cX5_ladder 1 = .ok (.invokestatic 178, 3) := by decide +kernel
theorem dX5_ladder_4 : decode cX5_ladder 4 = .ok (.ifCond .eq 8, 3) := by decide +kernel
theorem dX5_ladder_7 : decode cX5_ladder 7 = .ok (.iload_n 2, 1) := by decide +kernel
theorem dX5_ladder_8 : decode cX5_ladder 8 = .ok (.iconst (-1), 1) := by decide +kernel
theorem dX5_ladder_9 : decode cX5_ladder 9 = .ok (.if_icmp .ge 6, 3) := by decide +kernel
theorem dX5_ladder_12 : decode cX5_ladder 12 = .ok (.bipush (-2), 2) := by decide +kernel
theorem dX5_ladder_14 : decode cX5_ladder 14 = .ok (.ireturn, 1) := by decide +kernel
theorem dX5_ladder_15 : decode cX5_ladder 15 = .ok (.aload_n 0, 1) := by decide +kernel
theorem dX5_ladder_16 : decode cX5_ladder 16 = .ok (.getfield 29, 3) := by decide +kernel
theorem dX5_ladder_19 : decode cX5_ladder 19 = .ok (.invokevirtual 193, 3) := by decide +kernel
theorem dX5_ladder_22 : decode cX5_ladder 22 = .ok (.iconst 2, 1) := by decide +kernel
theorem dX5_ladder_23 : decode cX5_ladder 23 = .ok (.istore_n 3, 1) := by decide +kernel
theorem dX5_ladder_24 : decode cX5_ladder 24 = .ok (.iload_n 3, 1) := by decide +kernel
theorem dX5_ladder_25 : decode cX5_ladder 25 = .ok (.iconst 4, 1) := by decide +kernel
theorem dX5_ladder_26 : decode cX5_ladder 26 = .ok (.if_icmp .gt 34, 3) := by decide +kernel
theorem dX5_ladder_29 : decode cX5_ladder 29 = .ok (.iconst 1, 1) := by decide +kernel
theorem dX5_ladder_30 : decode cX5_ladder 30 = .ok (.istore 4, 2) := by decide +kernel
theorem dX5_ladder_32 : decode cX5_ladder 32 = .ok (.iload 4, 2) := by decide +kernel
theorem dX5_ladder_34 : decode cX5_ladder 34 = .ok (.iconst 5, 1) := by decide +kernel
theorem dX5_ladder_35 : decode cX5_ladder 35 = .ok (.iload_n 3, 1) := by decide +kernel
theorem dX5_ladder_36 : decode cX5_ladder 36 = .ok (.isub, 1) := by decide +kernel
theorem dX5_ladder_37 : decode cX5_ladder 37 = .ok (.if_icmp .gt 17, 3) := by decide +kernel
theorem dX5_ladder_40 : decode cX5_ladder 40 = .ok (.aload_n 0, 1) := by decide +kernel
theorem dX5_ladder_41 : decode cX5_ladder 41 = .ok (.iload_n 1, 1) := by decide +kernel
theorem dX5_ladder_42 : decode cX5_ladder 42 = .ok (.iload_n 3, 1) := by decide +kernel
theorem dX5_ladder_43 : decode cX5_ladder 43 = .ok (.iload 4, 2) := by decide +kernel
theorem dX5_ladder_45 : decode cX5_ladder 45 = .ok (.invokevirtual 194, 3) := by decide +kernel
theorem dX5_ladder_48 : decode cX5_ladder 48 = .ok (.iinc 4 1, 3) := by decide +kernel
theorem dX5_ladder_51 : decode cX5_ladder 51 = .ok (.goto (-19), 3) := by decide +kernel
theorem dX5_ladder_54 : decode cX5_ladder 54 = .ok (.iinc 3 1, 3) := by decide +kernel
theorem dX5_ladder_57 : decode cX5_ladder 57 = .ok (.goto (-33), 3) := by decide +kernel
theorem dX5_ladder_60 : decode cX5_ladder 60 = .ok (.aload_n 0, 1) := by decide +kernel
theorem dX5_ladder_61 : decode cX5_ladder 61 = .ok (.getfield 29, 3) := by decide +kernel
theorem dX5_ladder_64 : decode cX5_ladder 64 = .ok (.iload_n 2, 1) := by decide +kernel
theorem dX5_ladder_65 : decode cX5_ladder 65 = .ok (.invokevirtual 172, 3) := by decide +kernel
theorem dX5_ladder_68 : decode cX5_ladder 68 = .ok (.ireturn, 1) := by decide +kernel
set_option maxRecDepth 20000 in
theorem ggX5_rise_X1_read : GoodIn wsX5_rise wsX1_read := goodIn_r _ [8, 9, 10, 11, 12, 13, 7, 14, 75] (by decide +kernel) (by decide +kernel)
set_option maxRecDepth 20000 in
theorem gX5_rise_X1_read : GoodIn wsX5_rise (wsV RX5 57 RX1 yX1_read wsX1_read) := goodIn_app (goodIn_of _ (by decide +kernel)) ggX5_rise_X1_read
set_option maxRecDepth 20000 in
theorem ggX5_rise_X1_inversions : GoodIn wsX5_rise wsX1_inversions := goodIn_r _ [18, 19, 20, 21, 7, 22, 23, 24, 25, 26, 10, 75] (by decide +kernel) (by decide +kernel)
set_option maxRecDepth 20000 in
theorem gX5_rise_X1_inversions : GoodIn wsX5_rise (wsV RX5 65 RX1 yX1_inversions wsX1_inversions) := goodIn_app (goodIn_of _ (by decide +kernel)) ggX5_rise_X1_inversions
set_option maxRecDepth 20000 in
theorem ggX5_rise_X0_clear : GoodIn wsX5_rise wsX0_clear := goodIn_r _ [31, 32, 76, 77] (by decide +kernel) (by decide +kernel)
set_option maxRecDepth 20000 in
theorem gX5_rise_X0_clear : GoodIn wsX5_rise (wsV RX5 193 RX0 yX0_clear wsX0_clear) := goodIn_app (goodIn_of _ (by decide +kernel)) ggX5_rise_X0_clear
set_option maxRecDepth 20000 in
theorem ggX5_rise_X5_putExchanged : GoodIn wsX5_rise wsX5_putExchanged := goodIn_r _ [37, 3, 38, 39, 40, 7, 41, 23, 24, 25, 26, 10, 42, 43, 44, 45, 15, 16, 17, 18, 19, 20, 21, 22, 46, 47, 48, 49, 50, 51, 52, 53, 54, 55, 56, 30, 57, 32, 58, 59, 60, 61, 62, 67, 68, 69, 70, 71, 72, 73, 74, 75, 76, 77] (by decide +kernel) (by decide +kernel)
set_option maxRecDepth 20000 in
theorem gX5_rise_X5_putExchanged : GoodIn wsX5_rise (wsV RX5 198 RX5 yX5_putExchanged wsX5_putExchanged) := goodIn_app (goodIn_of _ (by decide +kernel)) ggX5_rise_X5_putExchanged
set_option maxRecDepth 20000 in
theorem ggX5_rise_X0_answer : GoodIn wsX5_rise wsX0_answer := goodIn_r _ [66, 32, 58, 76, 77] (by decide +kernel) (by decide +kernel)
set_option maxRecDepth 20000 in
theorem gX5_rise_X0_answer : GoodIn wsX5_rise (wsV RX5 172 RX0 yX0_answer wsX0_answer) := goodIn_app (goodIn_of _ (by decide +kernel)) ggX5_rise_X0_answer
theorem dX5_rise_0 : decode cX5_rise 0 = .ok (.iload_n 1, 1) := by decide +kernel
theorem dX5_rise_1 : decode cX5_rise 1 = .ok (.ldc 197, 2) := by decide +kernel
theorem dX5_rise_3 : decode cX5_rise 3 = .ok (.if_icmp .gt 30, 3) := by decide +kernel
theorem dX5_rise_6 : decode cX5_rise 6 = .ok (.aload_n 0, 1) := by decide +kernel
theorem dX5_rise_7 : decode cX5_rise 7 = .ok (.getfield 12, 3) := by decide +kernel
theorem dX5_rise_10 : decode cX5_rise 10 = .ok (.iload_n 1, 1) := by decide +kernel
theorem dX5_rise_11 : decode cX5_rise 11 = .ok (.invokevirtual 57, 3) := by decide +kernel
theorem dX5_rise_14 : decode cX5_rise 14 = .ok (.ifCond .eq 19, 3) := by decide +kernel
theorem dX5_rise_17 : decode cX5_rise 17 = .ok (.iload_n 2, 1) := by decide +kernel
theorem dX5_rise_18 : decode cX5_rise 18 = .ok (.iconst 1, 1) := by decide +kernel
theorem dX5_rise_19 : decode cX5_rise 19 = .ok (.if_icmp .lt 14, 3) := by decide +kernel
theorem dX5_rise_22 : decode cX5_rise 22 = .ok (.iload_n 2, 1) := by decide +kernel
theorem dX5_rise_23 : decode cX5_rise 23 = .ok (.bipush 9, 2) := by decide +kernel
theorem dX5_rise_25 : decode cX5_rise 25 = .ok (.if_icmp .ge 8, 3) := by decide +kernel
theorem dX5_rise_28 : decode cX5_rise 28 = .ok (.iload_n 3, 1) := by decide +kernel
theorem dX5_rise_29 : decode cX5_rise 29 = .ok (.iconst (-1), 1) := by decide +kernel
theorem dX5_rise_30 : decode cX5_rise 30 = .ok (.if_icmp .ge 6, 3) := by decide +kernel
theorem dX5_rise_33 : decode cX5_rise 33 = .ok (.bipush (-2), 2) := by decide +kernel
theorem dX5_rise_35 : decode cX5_rise 35 = .ok (.ireturn, 1) := by decide +kernel
theorem dX5_rise_36 : decode cX5_rise 36 = .ok (.aload_n 0, 1) := by decide +kernel
theorem dX5_rise_37 : decode cX5_rise 37 = .ok (.getfield 12, 3) := by decide +kernel
theorem dX5_rise_40 : decode cX5_rise 40 = .ok (.invokevirtual 65, 3) := by decide +kernel
theorem dX5_rise_43 : decode cX5_rise 43 = .ok (.iconst 1, 1) := by decide +kernel
theorem dX5_rise_44 : decode cX5_rise 44 = .ok (.iadd, 1) := by decide +kernel
theorem dX5_rise_45 : decode cX5_rise 45 = .ok (.istore 4, 2) := by decide +kernel
theorem dX5_rise_47 : decode cX5_rise 47 = .ok (.aload_n 0, 1) := by decide +kernel
theorem dX5_rise_48 : decode cX5_rise 48 = .ok (.getfield 29, 3) := by decide +kernel
theorem dX5_rise_51 : decode cX5_rise 51 = .ok (.invokevirtual 193, 3) := by decide +kernel
theorem dX5_rise_54 : decode cX5_rise 54 = .ok (.iconst 1, 1) := by decide +kernel
theorem dX5_rise_55 : decode cX5_rise 55 = .ok (.istore 5, 2) := by decide +kernel
theorem dX5_rise_57 : decode cX5_rise 57 = .ok (.iload 5, 2) := by decide +kernel
theorem dX5_rise_59 : decode cX5_rise 59 = .ok (.iload_n 2, 1) := by decide +kernel
theorem dX5_rise_60 : decode cX5_rise 60 = .ok (.if_icmp .gt 41, 3) := by decide +kernel
theorem dX5_rise_63 : decode cX5_rise 63 = .ok (.iload_n 2, 1) := by decide +kernel
theorem dX5_rise_64 : decode cX5_rise 64 = .ok (.iconst 1, 1) := by decide +kernel
theorem dX5_rise_65 : decode cX5_rise 65 = .ok (.iadd, 1) := by decide +kernel
theorem dX5_rise_66 : decode cX5_rise 66 = .ok (.istore 6, 2) := by decide +kernel
theorem dX5_rise_68 : decode cX5_rise 68 = .ok (.iload 6, 2) := by decide +kernel
theorem dX5_rise_70 : decode cX5_rise 70 = .ok (.bipush 9, 2) := by decide +kernel
theorem dX5_rise_72 : decode cX5_rise 72 = .ok (.if_icmp .gt 23, 3) := by decide +kernel
theorem dX5_rise_75 : decode cX5_rise 75 = .ok (.aload_n 0, 1) := by decide +kernel
theorem dX5_rise_76 : decode cX5_rise 76 = .ok (.aload_n 0, 1) := by decide +kernel
theorem dX5_rise_77 : decode cX5_rise 77 = .ok (.getfield 12, 3) := by decide +kernel
theorem dX5_rise_80 : decode cX5_rise 80 = .ok (.iload 5, 2) := by decide +kernel
theorem dX5_rise_82 : decode cX5_rise 82 = .ok (.iload 6, 2) := by decide +kernel
theorem dX5_rise_84 : decode cX5_rise 84 = .ok (.iload 4, 2) := by decide +kernel
theorem dX5_rise_86 : decode cX5_rise 86 = .ok (.invokevirtual 198, 3) := by decide +kernel
theorem dX5_rise_89 : decode cX5_rise 89 = .ok (.iinc 6 1, 3) := by decide +kernel
theorem dX5_rise_92 : decode cX5_rise 92 = .ok (.goto (-24), 3) := by decide +kernel
theorem dX5_rise_95 : decode cX5_rise 95 = .ok (.iinc 5 1, 3) := by decide +kernel
theorem dX5_rise_98 : decode cX5_rise 98 = .ok (.goto (-41), 3) := by decide +kernel
theorem dX5_rise_101 : decode cX5_rise 101 = .ok (.aload_n 0, 1) := by decide +kernel
theorem dX5_rise_102 : decode cX5_rise 102 = .ok (.getfield 29, 3) := by decide +kernel
theorem dX5_rise_105 : decode cX5_rise 105 = .ok (.iload_n 3, 1) := by decide +kernel
theorem dX5_rise_106 : decode cX5_rise 106 = .ok (.invokevirtual 172, 3) := by decide +kernel
theorem dX5_rise_109 : decode cX5_rise 109 = .ok (.ireturn, 1) := by decide +kernel
set_option maxRecDepth 20000 in
theorem ggX5_step_X1_read : GoodIn wsX5_step wsX1_read := goodIn_r _ [7, 8, 9, 10, 11, 12, 6, 13, 82] (by decide +kernel) (by decide +kernel)
set_option maxRecDepth 20000 in
theorem gX5_step_X1_read : GoodIn wsX5_step (wsV RX5 57 RX1 yX1_read wsX1_read) := goodIn_app (goodIn_of _ (by decide +kernel)) ggX5_step_X1_read
set_option maxRecDepth 20000 in
theorem ggX5_step_X1_lastDescent : GoodIn wsX5_step wsX1_lastDescent := goodIn_r _ [17, 9, 82] (by decide +kernel) (by decide +kernel)
set_option maxRecDepth 20000 in
theorem gX5_step_X1_lastDescent : GoodIn wsX5_step (wsV RX5 202 RX1 yX1_lastDescent wsX1_lastDescent) := goodIn_app (goodIn_of _ (by decide +kernel)) ggX5_step_X1_lastDescent
set_option maxRecDepth 20000 in
theorem ggX5_step_X1_lastLessThan : GoodIn wsX5_step wsX1_lastLessThan := goodIn_r _ [21, 9, 22, 23, 24, 6, 25, 82] (by decide +kernel) (by decide +kernel)
set_option maxRecDepth 20000 in
theorem gX5_step_X1_lastLessThan : GoodIn wsX5_step (wsV RX5 205 RX1 yX1_lastLessThan wsX1_lastLessThan) := goodIn_app (goodIn_of _ (by decide +kernel)) ggX5_step_X1_lastLessThan
set_option maxRecDepth 20000 in
theorem ggX5_step_X1_inversions : GoodIn wsX5_step wsX1_inversions := goodIn_r _ [29, 30, 31, 32, 6, 33, 22, 23, 24, 25, 9, 82] (by decide +kernel) (by decide +kernel)
set_option maxRecDepth 20000 in
theorem gX5_step_X1_inversions : GoodIn wsX5_step (wsV RX5 65 RX1 yX1_inversions wsX1_inversions) := goodIn_app (goodIn_of _ (by decide +kernel)) ggX5_step_X1_inversions
set_option maxRecDepth 20000 in
theorem ggX5_step_X1_exchange : GoodIn wsX5_step wsX1_exchange := goodIn_r _ [37, 22, 23, 24, 6, 25, 9, 38, 39, 40, 41, 82] (by decide +kernel) (by decide +kernel)
set_option maxRecDepth 20000 in
theorem gX5_step_X1_exchange : GoodIn wsX5_step (wsV RX5 208 RX1 yX1_exchange wsX1_exchange) := goodIn_app (goodIn_of _ (by decide +kernel)) ggX5_step_X1_exchange
set_option maxRecDepth 20000 in
theorem ggX5_step_X1_plainNumber : GoodIn wsX5_step wsX1_plainNumber := goodIn_r _ [45, 9, 46, 47, 48, 6, 49, 82] (by decide +kernel) (by decide +kernel)
set_option maxRecDepth 20000 in
theorem gX5_step_X1_plainNumber : GoodIn wsX5_step (wsV RX5 61 RX1 yX1_plainNumber wsX1_plainNumber) := goodIn_app (goodIn_of _ (by decide +kernel)) ggX5_step_X1_plainNumber
set_option maxRecDepth 20000 in
theorem ggX5_step_X0_clear : GoodIn wsX5_step wsX0_clear := goodIn_r _ [54, 55, 83, 84] (by decide +kernel) (by decide +kernel)
set_option maxRecDepth 20000 in
theorem gX5_step_X0_clear : GoodIn wsX5_step (wsV RX5 193 RX0 yX0_clear wsX0_clear) := goodIn_app (goodIn_of _ (by decide +kernel)) ggX5_step_X0_clear
set_option maxRecDepth 20000 in
theorem ggX5_step_X5_putExchanged : GoodIn wsX5_step wsX5_putExchanged := goodIn_r _ [60, 2, 34, 35, 36, 6, 37, 22, 23, 24, 25, 9, 38, 39, 40, 41, 26, 27, 28, 29, 30, 31, 32, 33, 42, 43, 44, 45, 46, 47, 48, 49, 61, 62, 63, 53, 64, 55, 65, 66, 67, 68, 69, 74, 75, 76, 77, 78, 79, 80, 81, 82, 83, 84] (by decide +kernel) (by decide +kernel)
set_option maxRecDepth 20000 in
theorem gX5_step_X5_putExchanged : GoodIn wsX5_step (wsV RX5 198 RX5 yX5_putExchanged wsX5_putExchanged) := goodIn_app (goodIn_of _ (by decide +kernel)) ggX5_step_X5_putExchanged
set_option maxRecDepth 20000 in
theorem ggX5_step_X0_answer : GoodIn wsX5_step wsX0_answer := goodIn_r _ [73, 55, 65, 83, 84] (by decide +kernel) (by decide +kernel)
set_option maxRecDepth 20000 in
theorem gX5_step_X0_answer : GoodIn wsX5_step (wsV RX5 172 RX0 yX0_answer wsX0_answer) := goodIn_app (goodIn_of _ (by decide +kernel)) ggX5_step_X0_answer
theorem dX5_step_0 : decode cX5_step 0 = .ok (.aload_n 0, 1) := by decide +kernel
theorem dX5_step_1 : decode cX5_step 1 = .ok (.getfield 12, 3) := by decide +kernel
theorem dX5_step_4 : decode cX5_step 4 = .ok (.iload_n 1, 1) := by decide +kernel
theorem dX5_step_5 : decode cX5_step 5 = .ok (.invokevirtual 57, 3) := by decide +kernel
theorem dX5_step_8 : decode cX5_step 8 = .ok (.ifCond .eq 9, 3) := by decide +kernel
theorem dX5_step_11 : decode cX5_step 11 = .ok (.iload_n 2, 1) := by decide +kernel
theorem dX5_step_12 : decode cX5_step 12 = .ok (.bipush (-3), 2) := by decide +kernel
theorem dX5_step_14 : decode cX5_step 14 = .ok (.if_icmp .ge 6, 3) := by decide +kernel
theorem dX5_step_17 : decode cX5_step 17 = .ok (.bipush (-2), 2) := by decide +kernel
theorem dX5_step_19 : decode cX5_step 19 = .ok (.ireturn, 1) := by decide +kernel
theorem dX5_step_20 : decode cX5_step 20 = .ok (.aload_n 0, 1) := by decide +kernel
theorem dX5_step_21 : decode cX5_step 21 = .ok (.getfield 12, 3) := by decide +kernel
theorem dX5_step_24 : decode cX5_step 24 = .ok (.invokevirtual 202, 3) := by decide +kernel
theorem dX5_step_27 : decode cX5_step 27 = .ok (.istore_n 3, 1) := by decide +kernel
theorem dX5_step_28 : decode cX5_step 28 = .ok (.iload_n 3, 1) := by decide +kernel
theorem dX5_step_29 : decode cX5_step 29 = .ok (.ifCond .ne 6, 3) := by decide +kernel
theorem dX5_step_32 : decode cX5_step 32 = .ok (.bipush (-3), 2) := by decide +kernel
theorem dX5_step_34 : decode cX5_step 34 = .ok (.ireturn, 1) := by decide +kernel
theorem dX5_step_35 : decode cX5_step 35 = .ok (.aload_n 0, 1) := by decide +kernel
theorem dX5_step_36 : decode cX5_step 36 = .ok (.getfield 12, 3) := by decide +kernel
theorem dX5_step_39 : decode cX5_step 39 = .ok (.iload_n 3, 1) := by decide +kernel
theorem dX5_step_40 : decode cX5_step 40 = .ok (.invokevirtual 205, 3) := by decide +kernel
theorem dX5_step_43 : decode cX5_step 43 = .ok (.istore 4, 2) := by decide +kernel
theorem dX5_step_45 : decode cX5_step 45 = .ok (.iload_n 2, 1) := by decide +kernel
theorem dX5_step_46 : decode cX5_step 46 = .ok (.bipush (-3), 2) := by decide +kernel
theorem dX5_step_48 : decode cX5_step 48 = .ok (.if_icmp .ne 5, 3) := by decide +kernel
theorem dX5_step_51 : decode cX5_step 51 = .ok (.iload_n 3, 1) := by decide +kernel
theorem dX5_step_52 : decode cX5_step 52 = .ok (.ireturn, 1) := by decide +kernel
theorem dX5_step_53 : decode cX5_step 53 = .ok (.iload_n 2, 1) := by decide +kernel
theorem dX5_step_54 : decode cX5_step 54 = .ok (.bipush (-2), 2) := by decide +kernel
theorem dX5_step_56 : decode cX5_step 56 = .ok (.if_icmp .ne 6, 3) := by decide +kernel
theorem dX5_step_59 : decode cX5_step 59 = .ok (.iload 4, 2) := by decide +kernel
theorem dX5_step_61 : decode cX5_step 61 = .ok (.ireturn, 1) := by decide +kernel
theorem dX5_step_62 : decode cX5_step 62 = .ok (.aload_n 0, 1) := by decide +kernel
theorem dX5_step_63 : decode cX5_step 63 = .ok (.getfield 12, 3) := by decide +kernel
theorem dX5_step_66 : decode cX5_step 66 = .ok (.invokevirtual 65, 3) := by decide +kernel
theorem dX5_step_69 : decode cX5_step 69 = .ok (.istore 5, 2) := by decide +kernel
theorem dX5_step_71 : decode cX5_step 71 = .ok (.aload_n 0, 1) := by decide +kernel
theorem dX5_step_72 : decode cX5_step 72 = .ok (.getfield 12, 3) := by decide +kernel
theorem dX5_step_75 : decode cX5_step 75 = .ok (.iload_n 3, 1) := by decide +kernel
theorem dX5_step_76 : decode cX5_step 76 = .ok (.iload 4, 2) := by decide +kernel
theorem dX5_step_78 : decode cX5_step 78 = .ok (.invokevirtual 208, 3) := by decide +kernel
theorem dX5_step_81 : decode cX5_step 81 = .ok (.iload_n 2, 1) := by decide +kernel
theorem dX5_step_82 : decode cX5_step 82 = .ok (.ifCond .ne 11, 3) := by decide +kernel
theorem dX5_step_85 : decode cX5_step 85 = .ok (.aload_n 0, 1) := by decide +kernel
theorem dX5_step_86 : decode cX5_step 86 = .ok (.getfield 12, 3) := by decide +kernel
theorem dX5_step_89 : decode cX5_step 89 = .ok (.invokevirtual 61, 3) := by decide +kernel
theorem dX5_step_92 : decode cX5_step 92 = .ok (.ireturn, 1) := by decide +kernel
theorem dX5_step_93 : decode cX5_step 93 = .ok (.aload_n 0, 1) := by decide +kernel
theorem dX5_step_94 : decode cX5_step 94 = .ok (.getfield 29, 3) := by decide +kernel
theorem dX5_step_97 : decode cX5_step 97 = .ok (.invokevirtual 193, 3) := by decide +kernel
theorem dX5_step_100 : decode cX5_step 100 = .ok (.iconst 1, 1) := by decide +kernel
theorem dX5_step_101 : decode cX5_step 101 = .ok (.istore 6, 2) := by decide +kernel
theorem dX5_step_103 : decode cX5_step 103 = .ok (.iload 6, 2) := by decide +kernel
theorem dX5_step_105 : decode cX5_step 105 = .ok (.iload_n 3, 1) := by decide +kernel
theorem dX5_step_106 : decode cX5_step 106 = .ok (.if_icmp .ge 22, 3) := by decide +kernel
theorem dX5_step_109 : decode cX5_step 109 = .ok (.aload_n 0, 1) := by decide +kernel
theorem dX5_step_110 : decode cX5_step 110 = .ok (.aload_n 0, 1) := by decide +kernel
theorem dX5_step_111 : decode cX5_step 111 = .ok (.getfield 12, 3) := by decide +kernel
theorem dX5_step_114 : decode cX5_step 114 = .ok (.iload 6, 2) := by decide +kernel
theorem dX5_step_116 : decode cX5_step 116 = .ok (.iload_n 3, 1) := by decide +kernel
theorem dX5_step_117 : decode cX5_step 117 = .ok (.iload 5, 2) := by decide +kernel
theorem dX5_step_119 : decode cX5_step 119 = .ok (.invokevirtual 198, 3) := by decide +kernel
theorem dX5_step_122 : decode cX5_step 122 = .ok (.iinc 6 1, 3) := by decide +kernel
theorem dX5_step_125 : decode cX5_step 125 = .ok (.goto (-22), 3) := by decide +kernel
theorem dX5_step_128 : decode cX5_step 128 = .ok (.aload_n 0, 1) := by decide +kernel
theorem dX5_step_129 : decode cX5_step 129 = .ok (.getfield 29, 3) := by decide +kernel
theorem dX5_step_132 : decode cX5_step 132 = .ok (.iload_n 2, 1) := by decide +kernel
theorem dX5_step_133 : decode cX5_step 133 = .ok (.iconst (-1), 1) := by decide +kernel
theorem dX5_step_134 : decode cX5_step 134 = .ok (.if_icmp .ne 7, 3) := by decide +kernel
theorem dX5_step_137 : decode cX5_step 137 = .ok (.iconst (-1), 1) := by decide +kernel
theorem dX5_step_138 : decode cX5_step 138 = .ok (.goto 6, 3) := by decide +kernel
theorem dX5_step_141 : decode cX5_step 141 = .ok (.iload_n 2, 1) := by decide +kernel
theorem dX5_step_142 : decode cX5_step 142 = .ok (.iconst 1, 1) := by decide +kernel
theorem dX5_step_143 : decode cX5_step 143 = .ok (.isub, 1) := by decide +kernel
theorem dX5_step_144 : decode cX5_step 144 = .ok (.invokevirtual 172, 3) := by decide +kernel
theorem dX5_step_147 : decode cX5_step 147 = .ok (.ireturn, 1) := by decide +kernel
set_option maxRecDepth 20000 in
theorem ggX5_shape_X1_read : GoodIn wsX5_shape wsX1_read := goodIn_r _ [6, 7, 8, 9, 10, 11, 5, 12, 40] (by decide +kernel) (by decide +kernel)
set_option maxRecDepth 20000 in
theorem gX5_shape_X1_read : GoodIn wsX5_shape (wsV RX5 57 RX1 yX1_read wsX1_read) := goodIn_app (goodIn_of _ (by decide +kernel)) ggX5_shape_X1_read
set_option maxRecDepth 20000 in
theorem ggX5_shape_X1_descentSet : GoodIn wsX5_shape wsX1_descentSet := goodIn_r _ [16, 8, 40] (by decide +kernel) (by decide +kernel)
set_option maxRecDepth 20000 in
theorem gX5_shape_X1_descentSet : GoodIn wsX5_shape (wsV RX5 72 RX1 yX1_descentSet wsX1_descentSet) := goodIn_app (goodIn_of _ (by decide +kernel)) ggX5_shape_X1_descentSet
set_option maxRecDepth 20000 in
theorem ggX5_shape_J6_bitCount_0f7a4 : GoodIn wsX5_shape wsJ6_bitCount_0f7a4 := goodIn_r _ [20, 21, 22, 23] (by decide +kernel) (by decide +kernel)
set_option maxRecDepth 20000 in
theorem gX5_shape_J6_bitCount_0f7a4 : GoodIn wsX5_shape (va_wsS RX5 184 yJ6_bitCount_0f7a4 wsJ6_bitCount_0f7a4) := goodIn_app (goodIn_of _ (by decide +kernel)) ggX5_shape_J6_bitCount_0f7a4
set_option maxRecDepth 20000 in
theorem ggX5_shape_X1_lastDescent : GoodIn wsX5_shape wsX1_lastDescent := goodIn_r _ [27, 8, 40] (by decide +kernel) (by decide +kernel)
set_option maxRecDepth 20000 in
theorem gX5_shape_X1_lastDescent : GoodIn wsX5_shape (wsV RX5 202 RX1 yX1_lastDescent wsX1_lastDescent) := goodIn_app (goodIn_of _ (by decide +kernel)) ggX5_shape_X1_lastDescent
set_option maxRecDepth 20000 in
theorem ggX5_shape_X1_digit : GoodIn wsX5_shape wsX1_digit := goodIn_r _ [31, 8, 40] (by decide +kernel) (by decide +kernel)
set_option maxRecDepth 20000 in
theorem gX5_shape_X1_digit : GoodIn wsX5_shape (wsV RX5 212 RX1 yX1_digit wsX1_digit) := goodIn_app (goodIn_of _ (by decide +kernel)) ggX5_shape_X1_digit
theorem dX5_shape_0 : decode cX5_shape 0 = .ok (.aload_n 0, 1) := by decide +kernel
theorem dX5_shape_1 : decode cX5_shape 1 = .ok (.getfield 12, 3) := by decide +kernel
theorem dX5_shape_4 : decode cX5_shape 4 = .ok (.iload_n 1, 1) := by decide +kernel
theorem dX5_shape_5 : decode cX5_shape 5 = .ok (.invokevirtual 57, 3) := by decide +kernel
theorem dX5_shape_8 : decode cX5_shape 8 = .ok (.ifCond .eq 8, 3) := by decide +kernel
theorem dX5_shape_11 : decode cX5_shape 11 = .ok (.iload_n 2, 1) := by decide +kernel
theorem dX5_shape_12 : decode cX5_shape 12 = .ok (.iconst 1, 1) := by decide +kernel
theorem dX5_shape_13 : decode cX5_shape 13 = .ok (.if_icmp .ge 6, 3) := by decide +kernel
theorem dX5_shape_16 : decode cX5_shape 16 = .ok (.bipush (-2), 2) := by decide +kernel
theorem dX5_shape_18 : decode cX5_shape 18 = .ok (.ireturn, 1) := by decide +kernel
theorem dX5_shape_19 : decode cX5_shape 19 = .ok (.aload_n 0, 1) := by decide +kernel
theorem dX5_shape_20 : decode cX5_shape 20 = .ok (.getfield 12, 3) := by decide +kernel
theorem dX5_shape_23 : decode cX5_shape 23 = .ok (.invokevirtual 72, 3) := by decide +kernel
theorem dX5_shape_26 : decode cX5_shape 26 = .ok (.invokestatic 184, 3) := by decide +kernel
theorem dX5_shape_29 : decode cX5_shape 29 = .ok (.iconst 1, 1) := by decide +kernel
theorem dX5_shape_30 : decode cX5_shape 30 = .ok (.if_icmp .eq 6, 3) := by decide +kernel
theorem dX5_shape_33 : decode cX5_shape 33 = .ok (.bipush (-3), 2) := by decide +kernel
theorem dX5_shape_35 : decode cX5_shape 35 = .ok (.ireturn, 1) := by decide +kernel
theorem dX5_shape_36 : decode cX5_shape 36 = .ok (.aload_n 0, 1) := by decide +kernel
theorem dX5_shape_37 : decode cX5_shape 37 = .ok (.getfield 12, 3) := by decide +kernel
theorem dX5_shape_40 : decode cX5_shape 40 = .ok (.invokevirtual 202, 3) := by decide +kernel
theorem dX5_shape_43 : decode cX5_shape 43 = .ok (.istore_n 3, 1) := by decide +kernel
theorem dX5_shape_44 : decode cX5_shape 44 = .ok (.iload_n 2, 1) := by decide +kernel
theorem dX5_shape_45 : decode cX5_shape 45 = .ok (.iload_n 3, 1) := by decide +kernel
theorem dX5_shape_46 : decode cX5_shape 46 = .ok (.if_icmp .le 6, 3) := by decide +kernel
theorem dX5_shape_49 : decode cX5_shape 49 = .ok (.bipush (-9), 2) := by decide +kernel
theorem dX5_shape_51 : decode cX5_shape 51 = .ok (.ireturn, 1) := by decide +kernel
theorem dX5_shape_52 : decode cX5_shape 52 = .ok (.iload_n 3, 1) := by decide +kernel
theorem dX5_shape_53 : decode cX5_shape 53 = .ok (.iconst 1, 1) := by decide +kernel
theorem dX5_shape_54 : decode cX5_shape 54 = .ok (.iadd, 1) := by decide +kernel
theorem dX5_shape_55 : decode cX5_shape 55 = .ok (.iload_n 2, 1) := by decide +kernel
theorem dX5_shape_56 : decode cX5_shape 56 = .ok (.isub, 1) := by decide +kernel
theorem dX5_shape_57 : decode cX5_shape 57 = .ok (.istore 4, 2) := by decide +kernel
theorem dX5_shape_59 : decode cX5_shape 59 = .ok (.aload_n 0, 1) := by decide +kernel
theorem dX5_shape_60 : decode cX5_shape 60 = .ok (.getfield 12, 3) := by decide +kernel
theorem dX5_shape_63 : decode cX5_shape 63 = .ok (.iload 4, 2) := by decide +kernel
theorem dX5_shape_65 : decode cX5_shape 65 = .ok (.invokevirtual 212, 3) := by decide +kernel
theorem dX5_shape_68 : decode cX5_shape 68 = .ok (.iload 4, 2) := by decide +kernel
theorem dX5_shape_70 : decode cX5_shape 70 = .ok (.isub, 1) := by decide +kernel
theorem dX5_shape_71 : decode cX5_shape 71 = .ok (.ireturn, 1) := by decide +kernel
set_option maxRecDepth 20000 in
theorem ggX5_avoids_X1_read : GoodIn wsX5_avoids wsX1_read := goodIn_r _ [6, 7, 8, 9, 10, 11, 5, 12, 48] (by decide +kernel) (by decide +kernel)
set_option maxRecDepth 20000 in
theorem gX5_avoids_X1_read : GoodIn wsX5_avoids (wsV RX5 57 RX1 yX1_read wsX1_read) := goodIn_app (goodIn_of _ (by decide +kernel)) ggX5_avoids_X1_read
set_option maxRecDepth 20000 in
theorem ggX5_avoids_X1_hasLeastGreatestMiddle : GoodIn wsX5_avoids wsX1_hasLeastGreatestMiddle := goodIn_r _ [16, 8, 17, 18, 19, 5, 20, 21, 22, 23, 24, 25, 26, 27, 28, 48] (by decide +kernel) (by decide +kernel)
set_option maxRecDepth 20000 in
theorem gX5_avoids_X1_hasLeastGreatestMiddle : GoodIn wsX5_avoids (wsV RX5 215 RX1 yX1_hasLeastGreatestMiddle wsX1_hasLeastGreatestMiddle) := goodIn_app (goodIn_of _ (by decide +kernel)) ggX5_avoids_X1_hasLeastGreatestMiddle
set_option maxRecDepth 20000 in
theorem ggX5_avoids_X1_hasTwoOneFourThree : GoodIn wsX5_avoids wsX1_hasTwoOneFourThree := goodIn_r _ [32, 8, 33, 34, 35, 5, 36, 37, 38, 23, 39, 25, 26, 27, 28, 48] (by decide +kernel) (by decide +kernel)
set_option maxRecDepth 20000 in
theorem gX5_avoids_X1_hasTwoOneFourThree : GoodIn wsX5_avoids (wsV RX5 218 RX1 yX1_hasTwoOneFourThree wsX1_hasTwoOneFourThree) := goodIn_app (goodIn_of _ (by decide +kernel)) ggX5_avoids_X1_hasTwoOneFourThree
theorem dX5_avoids_0 : decode cX5_avoids 0 = .ok (.aload_n 0, 1) := by decide +kernel
theorem dX5_avoids_1 : decode cX5_avoids 1 = .ok (.getfield 12, 3) := by decide +kernel
theorem dX5_avoids_4 : decode cX5_avoids 4 = .ok (.iload_n 1, 1) := by decide +kernel
theorem dX5_avoids_5 : decode cX5_avoids 5 = .ok (.invokevirtual 57, 3) := by decide +kernel
theorem dX5_avoids_8 : decode cX5_avoids 8 = .ok (.ifCond .eq 13, 3) := by decide +kernel
theorem dX5_avoids_11 : decode cX5_avoids 11 = .ok (.iload_n 2, 1) := by decide +kernel
theorem dX5_avoids_12 : decode cX5_avoids 12 = .ok (.iconst 1, 1) := by decide +kernel
theorem dX5_avoids_13 : decode cX5_avoids 13 = .ok (.if_icmp .lt 8, 3) := by decide +kernel
theorem dX5_avoids_16 : decode cX5_avoids 16 = .ok (.iload_n 2, 1) := by decide +kernel
theorem dX5_avoids_17 : decode cX5_avoids 17 = .ok (.iconst 2, 1) := by decide +kernel
theorem dX5_avoids_18 : decode cX5_avoids 18 = .ok (.if_icmp .le 6, 3) := by decide +kernel
theorem dX5_avoids_21 : decode cX5_avoids 21 = .ok (.bipush (-2), 2) := by decide +kernel
theorem dX5_avoids_23 : decode cX5_avoids 23 = .ok (.ireturn, 1) := by decide +kernel
theorem dX5_avoids_24 : decode cX5_avoids 24 = .ok (.iload_n 2, 1) := by decide +kernel
theorem dX5_avoids_25 : decode cX5_avoids 25 = .ok (.iconst 1, 1) := by decide +kernel
theorem dX5_avoids_26 : decode cX5_avoids 26 = .ok (.if_icmp .ne 13, 3) := by decide +kernel
theorem dX5_avoids_29 : decode cX5_avoids 29 = .ok (.aload_n 0, 1) := by decide +kernel
theorem dX5_avoids_30 : decode cX5_avoids 30 = .ok (.getfield 12, 3) := by decide +kernel
theorem dX5_avoids_33 : decode cX5_avoids 33 = .ok (.invokevirtual 215, 3) := by decide +kernel
theorem dX5_avoids_36 : decode cX5_avoids 36 = .ok (.goto 10, 3) := by decide +kernel
theorem dX5_avoids_39 : decode cX5_avoids 39 = .ok (.aload_n 0, 1) := by decide +kernel
theorem dX5_avoids_40 : decode cX5_avoids 40 = .ok (.getfield 12, 3) := by decide +kernel
theorem dX5_avoids_43 : decode cX5_avoids 43 = .ok (.invokevirtual 218, 3) := by decide +kernel
theorem dX5_avoids_46 : decode cX5_avoids 46 = .ok (.istore_n 3, 1) := by decide +kernel
theorem dX5_avoids_47 : decode cX5_avoids 47 = .ok (.iload_n 3, 1) := by decide +kernel
theorem dX5_avoids_48 : decode cX5_avoids 48 = .ok (.ifCond .eq 7, 3) := by decide +kernel
theorem dX5_avoids_51 : decode cX5_avoids 51 = .ok (.iconst 0, 1) := by decide +kernel
theorem dX5_avoids_52 : decode cX5_avoids 52 = .ok (.goto 4, 3) := by decide +kernel
theorem dX5_avoids_55 : decode cX5_avoids 55 = .ok (.iconst 1, 1) := by decide +kernel
theorem dX5_avoids_56 : decode cX5_avoids 56 = .ok (.ireturn, 1) := by decide +kernel
set_option maxRecDepth 20000 in
theorem ggX5_cellOf_X5_isAnyNegative : GoodIn wsX5_cellOf wsX5_isAnyNegative := goodIn_r _ [4] (by decide +kernel) (by decide +kernel)
set_option maxRecDepth 20000 in
theorem gX5_cellOf_X5_isAnyNegative : GoodIn wsX5_cellOf (va_wsS RX5 105 yX5_isAnyNegative wsX5_isAnyNegative) := goodIn_app (goodIn_of _ (by decide +kernel)) ggX5_cellOf_X5_isAnyNegative
theorem dX5_cellOf_0 : decode cX5_cellOf 0 = .ok (.iload_n 0, 1) := by decide +kernel
theorem dX5_cellOf_1 : decode cX5_cellOf 1 = .ok (.iload_n 1, 1) := by decide +kernel
theorem dX5_cellOf_2 : decode cX5_cellOf 2 = .ok (.iload_n 2, 1) := by decide +kernel
theorem dX5_cellOf_3 : decode cX5_cellOf 3 = .ok (.iload_n 3, 1) := by decide +kernel
theorem dX5_cellOf_4 : decode cX5_cellOf 4 = .ok (.invokestatic 105, 3) := by decide +kernel
theorem dX5_cellOf_7 : decode cX5_cellOf 7 = .ok (.ifCond .ne 26, 3) := by decide +kernel
theorem dX5_cellOf_10 : decode cX5_cellOf 10 = .ok (.iload_n 0, 1) := by decide +kernel
theorem dX5_cellOf_11 : decode cX5_cellOf 11 = .ok (.bipush 8, 2) := by decide +kernel
theorem dX5_cellOf_13 : decode cX5_cellOf 13 = .ok (.if_icmp .gt 20, 3) := by decide +kernel
theorem dX5_cellOf_16 : decode cX5_cellOf 16 = .ok (.iload_n 1, 1) := by decide +kernel
theorem dX5_cellOf_17 : decode cX5_cellOf 17 = .ok (.bipush 7, 2) := by decide +kernel
theorem dX5_cellOf_19 : decode cX5_cellOf 19 = .ok (.if_icmp .gt 14, 3) := by decide +kernel
theorem dX5_cellOf_22 : decode cX5_cellOf 22 = .ok (.iload_n 2, 1) := by decide +kernel
theorem dX5_cellOf_23 : decode cX5_cellOf 23 = .ok (.bipush 6, 2) := by decide +kernel
theorem dX5_cellOf_25 : decode cX5_cellOf 25 = .ok (.if_icmp .gt 8, 3) := by decide +kernel
theorem dX5_cellOf_28 : decode cX5_cellOf 28 = .ok (.iload_n 3, 1) := by decide +kernel
theorem dX5_cellOf_29 : decode cX5_cellOf 29 = .ok (.iconst 5, 1) := by decide +kernel
theorem dX5_cellOf_30 : decode cX5_cellOf 30 = .ok (.if_icmp .le 5, 3) := by decide +kernel
theorem dX5_cellOf_33 : decode cX5_cellOf 33 = .ok (.iconst (-1), 1) := by decide +kernel
theorem dX5_cellOf_34 : decode cX5_cellOf 34 = .ok (.ireturn, 1) := by decide +kernel
theorem dX5_cellOf_35 : decode cX5_cellOf 35 = .ok (.iload_n 0, 1) := by decide +kernel
theorem dX5_cellOf_36 : decode cX5_cellOf 36 = .ok (.bipush 9, 2) := by decide +kernel
theorem dX5_cellOf_38 : decode cX5_cellOf 38 = .ok (.iload_n 1, 1) := by decide +kernel
theorem dX5_cellOf_39 : decode cX5_cellOf 39 = .ok (.imul, 1) := by decide +kernel
theorem dX5_cellOf_40 : decode cX5_cellOf 40 = .ok (.iadd, 1) := by decide +kernel
theorem dX5_cellOf_41 : decode cX5_cellOf 41 = .ok (.bipush 72, 2) := by decide +kernel
theorem dX5_cellOf_43 : decode cX5_cellOf 43 = .ok (.iload_n 2, 1) := by decide +kernel
theorem dX5_cellOf_44 : decode cX5_cellOf 44 = .ok (.imul, 1) := by decide +kernel
theorem dX5_cellOf_45 : decode cX5_cellOf 45 = .ok (.iadd, 1) := by decide +kernel
theorem dX5_cellOf_46 : decode cX5_cellOf 46 = .ok (.sipush 504, 3) := by decide +kernel
theorem dX5_cellOf_49 : decode cX5_cellOf 49 = .ok (.iload_n 3, 1) := by decide +kernel
theorem dX5_cellOf_50 : decode cX5_cellOf 50 = .ok (.imul, 1) := by decide +kernel
theorem dX5_cellOf_51 : decode cX5_cellOf 51 = .ok (.iadd, 1) := by decide +kernel
theorem dX5_cellOf_52 : decode cX5_cellOf 52 = .ok (.ireturn, 1) := by decide +kernel
theorem dX5_exponentAt_0 : decode cX5_exponentAt 0 = .ok (.iload_n 1, 1) := by decide +kernel
theorem dX5_exponentAt_1 : decode cX5_exponentAt 1 = .ok (.tableswitch 58 1 4 #[31, 36, 44, 52], 31) := by decide +kernel
theorem dX5_exponentAt_32 : decode cX5_exponentAt 32 = .ok (.iload_n 0, 1) := by decide +kernel
theorem dX5_exponentAt_33 : decode cX5_exponentAt 33 = .ok (.bipush 9, 2) := by decide +kernel
theorem dX5_exponentAt_35 : decode cX5_exponentAt 35 = .ok (.irem, 1) := by decide +kernel
theorem dX5_exponentAt_36 : decode cX5_exponentAt 36 = .ok (.ireturn, 1) := by decide +kernel
theorem dX5_exponentAt_37 : decode cX5_exponentAt 37 = .ok (.iload_n 0, 1) := by decide +kernel
theorem dX5_exponentAt_38 : decode cX5_exponentAt 38 = .ok (.bipush 9, 2) := by decide +kernel
theorem dX5_exponentAt_40 : decode cX5_exponentAt 40 = .ok (.idiv, 1) := by decide +kernel
theorem dX5_exponentAt_41 : decode cX5_exponentAt 41 = .ok (.bipush 8, 2) := by decide +kernel
theorem dX5_exponentAt_43 : decode cX5_exponentAt 43 = .ok (.irem, 1) := by decide +kernel
theorem dX5_exponentAt_44 : decode cX5_exponentAt 44 = .ok (.ireturn, 1) := by decide +kernel
theorem dX5_exponentAt_45 : decode cX5_exponentAt 45 = .ok (.iload_n 0, 1) := by decide +kernel
theorem dX5_exponentAt_46 : decode cX5_exponentAt 46 = .ok (.bipush 72, 2) := by decide +kernel
theorem dX5_exponentAt_48 : decode cX5_exponentAt 48 = .ok (.idiv, 1) := by decide +kernel
theorem dX5_exponentAt_49 : decode cX5_exponentAt 49 = .ok (.bipush 7, 2) := by decide +kernel
theorem dX5_exponentAt_51 : decode cX5_exponentAt 51 = .ok (.irem, 1) := by decide +kernel
theorem dX5_exponentAt_52 : decode cX5_exponentAt 52 = .ok (.ireturn, 1) := by decide +kernel
theorem dX5_exponentAt_53 : decode cX5_exponentAt 53 = .ok (.iload_n 0, 1) := by decide +kernel
theorem dX5_exponentAt_54 : decode cX5_exponentAt 54 = .ok (.sipush 504, 3) := by decide +kernel
theorem dX5_exponentAt_57 : decode cX5_exponentAt 57 = .ok (.idiv, 1) := by decide +kernel
theorem dX5_exponentAt_58 : decode cX5_exponentAt 58 = .ok (.ireturn, 1) := by decide +kernel
theorem dX5_exponentAt_59 : decode cX5_exponentAt 59 = .ok (.iconst 0, 1) := by decide +kernel
theorem dX5_exponentAt_60 : decode cX5_exponentAt 60 = .ok (.ireturn, 1) := by decide +kernel
theorem dX5_isAnyNegative_0 : decode cX5_isAnyNegative 0 = .ok (.iload_n 0, 1) := by decide +kernel
theorem dX5_isAnyNegative_1 : decode cX5_isAnyNegative 1 = .ok (.ifCond .lt 15, 3) := by decide +kernel
theorem dX5_isAnyNegative_4 : decode cX5_isAnyNegative 4 = .ok (.iload_n 1, 1) := by decide +kernel
theorem dX5_isAnyNegative_5 : decode cX5_isAnyNegative 5 = .ok (.ifCond .lt 11, 3) := by decide +kernel
theorem dX5_isAnyNegative_8 : decode cX5_isAnyNegative 8 = .ok (.iload_n 2, 1) := by decide +kernel
theorem dX5_isAnyNegative_9 : decode cX5_isAnyNegative 9 = .ok (.ifCond .lt 7, 3) := by decide +kernel
theorem dX5_isAnyNegative_12 : decode cX5_isAnyNegative 12 = .ok (.iload_n 3, 1) := by decide +kernel
theorem dX5_isAnyNegative_13 : decode cX5_isAnyNegative 13 = .ok (.ifCond .ge 7, 3) := by decide +kernel
theorem dX5_isAnyNegative_16 : decode cX5_isAnyNegative 16 = .ok (.iconst 1, 1) := by decide +kernel
theorem dX5_isAnyNegative_17 : decode cX5_isAnyNegative 17 = .ok (.goto 4, 3) := by decide +kernel
theorem dX5_isAnyNegative_20 : decode cX5_isAnyNegative 20 = .ok (.iconst 0, 1) := by decide +kernel
theorem dX5_isAnyNegative_21 : decode cX5_isAnyNegative 21 = .ok (.ireturn, 1) := by decide +kernel
theorem dX5_isPoint_0 : decode cX5_isPoint 0 = .ok (.iload_n 0, 1) := by decide +kernel
theorem dX5_isPoint_1 : decode cX5_isPoint 1 = .ok (.bipush (-3), 2) := by decide +kernel
theorem dX5_isPoint_3 : decode cX5_isPoint 3 = .ok (.if_icmp .lt 12, 3) := by decide +kernel
theorem dX5_isPoint_6 : decode cX5_isPoint 6 = .ok (.iload_n 0, 1) := by decide +kernel
theorem dX5_isPoint_7 : decode cX5_isPoint 7 = .ok (.iconst 3, 1) := by decide +kernel
theorem dX5_isPoint_8 : decode cX5_isPoint 8 = .ok (.if_icmp .gt 7, 3) := by decide +kernel
theorem dX5_isPoint_11 : decode cX5_isPoint 11 = .ok (.iconst 1, 1) := by decide +kernel
theorem dX5_isPoint_12 : decode cX5_isPoint 12 = .ok (.goto 4, 3) := by decide +kernel
theorem dX5_isPoint_15 : decode cX5_isPoint 15 = .ok (.iconst 0, 1) := by decide +kernel
theorem dX5_isPoint_16 : decode cX5_isPoint 16 = .ok (.ireturn, 1) := by decide +kernel
theorem dX5_isCrossSet_0 : decode cX5_isCrossSet 0 = .ok (.iload_n 0, 1) := by decide +kernel
theorem dX5_isCrossSet_1 : decode cX5_isCrossSet 1 = .ok (.ifCond .lt 14, 3) := by decide +kernel
theorem dX5_isCrossSet_4 : decode cX5_isCrossSet 4 = .ok (.iload_n 0, 1) := by decide +kernel
theorem dX5_isCrossSet_5 : decode cX5_isCrossSet 5 = .ok (.sipush 1024, 3) := by decide +kernel
theorem dX5_isCrossSet_8 : decode cX5_isCrossSet 8 = .ok (.if_icmp .ge 7, 3) := by decide +kernel
theorem dX5_isCrossSet_11 : decode cX5_isCrossSet 11 = .ok (.iconst 1, 1) := by decide +kernel
theorem dX5_isCrossSet_12 : decode cX5_isCrossSet 12 = .ok (.goto 4, 3) := by decide +kernel
theorem dX5_isCrossSet_15 : decode cX5_isCrossSet 15 = .ok (.iconst 0, 1) := by decide +kernel
theorem dX5_isCrossSet_16 : decode cX5_isCrossSet 16 = .ok (.ireturn, 1) := by decide +kernel
set_option maxRecDepth 20000 in
theorem ggX5_fitCell_X1_read : GoodIn wsX5_fitCell wsX1_read := goodIn_r _ [6, 7, 8, 9, 10, 11, 5, 12, 47] (by decide +kernel) (by decide +kernel)
set_option maxRecDepth 20000 in
theorem gX5_fitCell_X1_read : GoodIn wsX5_fitCell (wsV RX5 57 RX1 yX1_read wsX1_read) := goodIn_app (goodIn_of _ (by decide +kernel)) ggX5_fitCell_X1_read
set_option maxRecDepth 20000 in
theorem ggX5_fitCell_X1_isFit : GoodIn wsX5_fitCell wsX1_isFit := goodIn_r _ [16, 17, 18, 19, 5, 20, 8, 47] (by decide +kernel) (by decide +kernel)
set_option maxRecDepth 20000 in
theorem gX5_fitCell_X1_isFit : GoodIn wsX5_fitCell (wsV RX5 221 RX1 yX1_isFit wsX1_isFit) := goodIn_app (goodIn_of _ (by decide +kernel)) ggX5_fitCell_X1_isFit
set_option maxRecDepth 20000 in
theorem ggX5_fitCell_X1_codeCell : GoodIn wsX5_fitCell wsX1_codeCell := goodIn_r _ [24, 25, 26, 27, 5, 28, 29, 30, 31, 32, 8, 33, 34, 35, 36, 37, 38, 47] (by decide +kernel) (by decide +kernel)
set_option maxRecDepth 20000 in
theorem gX5_fitCell_X1_codeCell : GoodIn wsX5_fitCell (wsV RX5 224 RX1 yX1_codeCell wsX1_codeCell) := goodIn_app (goodIn_of _ (by decide +kernel)) ggX5_fitCell_X1_codeCell
theorem dX5_fitCell_0 : decode cX5_fitCell 0 = .ok (.aload_n 0, 1) := by decide +kernel
theorem dX5_fitCell_1 : decode cX5_fitCell 1 = .ok (.getfield 12, 3) := by decide +kernel
theorem dX5_fitCell_4 : decode cX5_fitCell 4 = .ok (.iload_n 1, 1) := by decide +kernel
theorem dX5_fitCell_5 : decode cX5_fitCell 5 = .ok (.invokevirtual 57, 3) := by decide +kernel
theorem dX5_fitCell_8 : decode cX5_fitCell 8 = .ok (.ifCond .ne 6, 3) := by decide +kernel
theorem dX5_fitCell_11 : decode cX5_fitCell 11 = .ok (.bipush (-2), 2) := by decide +kernel
theorem dX5_fitCell_13 : decode cX5_fitCell 13 = .ok (.ireturn, 1) := by decide +kernel
theorem dX5_fitCell_14 : decode cX5_fitCell 14 = .ok (.aload_n 0, 1) := by decide +kernel
theorem dX5_fitCell_15 : decode cX5_fitCell 15 = .ok (.getfield 12, 3) := by decide +kernel
theorem dX5_fitCell_18 : decode cX5_fitCell 18 = .ok (.invokevirtual 221, 3) := by decide +kernel
theorem dX5_fitCell_21 : decode cX5_fitCell 21 = .ok (.ifCond .eq 13, 3) := by decide +kernel
theorem dX5_fitCell_24 : decode cX5_fitCell 24 = .ok (.aload_n 0, 1) := by decide +kernel
theorem dX5_fitCell_25 : decode cX5_fitCell 25 = .ok (.getfield 12, 3) := by decide +kernel
theorem dX5_fitCell_28 : decode cX5_fitCell 28 = .ok (.invokevirtual 224, 3) := by decide +kernel
theorem dX5_fitCell_31 : decode cX5_fitCell 31 = .ok (.goto 5, 3) := by decide +kernel
theorem dX5_fitCell_34 : decode cX5_fitCell 34 = .ok (.bipush (-3), 2) := by decide +kernel
theorem dX5_fitCell_36 : decode cX5_fitCell 36 = .ok (.ireturn, 1) := by decide +kernel
set_option maxRecDepth 20000 in
theorem ggX5_takeDraft_X2_isWithinLimit : GoodIn wsX5_takeDraft wsX2_isWithinLimit := goodIn_r _ [8, 9, 10, 11, 38, 39] (by decide +kernel) (by decide +kernel)
set_option maxRecDepth 20000 in
theorem gX5_takeDraft_X2_isWithinLimit : GoodIn wsX5_takeDraft (wsV RX5 227 RX2 yX2_isWithinLimit wsX2_isWithinLimit) := goodIn_app (goodIn_of _ (by decide +kernel)) ggX5_takeDraft_X2_isWithinLimit
set_option maxRecDepth 20000 in
theorem ggX5_takeDraft_X2_copy : GoodIn wsX5_takeDraft wsX2_copy := goodIn_r _ [15, 9, 16, 17, 18, 19, 38, 39] (by decide +kernel) (by decide +kernel)
set_option maxRecDepth 20000 in
theorem gX5_takeDraft_X2_copy : GoodIn wsX5_takeDraft (wsV RX5 137 RX2 yX2_copy wsX2_copy) := goodIn_app (goodIn_of _ (by decide +kernel)) ggX5_takeDraft_X2_copy
set_option maxRecDepth 20000 in
theorem ggX5_takeDraft_X3_forget : GoodIn wsX5_takeDraft wsX3_forget := goodIn_r _ [24, 25, 40, 41, 42] (by decide +kernel) (by decide +kernel)
set_option maxRecDepth 20000 in
theorem gX5_takeDraft_X3_forget : GoodIn wsX5_takeDraft (wsV RX5 134 RX3 yX3_forget wsX3_forget) := goodIn_app (goodIn_of _ (by decide +kernel)) ggX5_takeDraft_X3_forget
set_option maxRecDepth 20000 in
theorem ggX5_takeDraft_X2_filled : GoodIn wsX5_takeDraft wsX2_filled := goodIn_r _ [29, 9, 38, 39] (by decide +kernel) (by decide +kernel)
set_option maxRecDepth 20000 in
theorem gX5_takeDraft_X2_filled : GoodIn wsX5_takeDraft (wsV RX5 119 RX2 yX2_filled wsX2_filled) := goodIn_app (goodIn_of _ (by decide +kernel)) ggX5_takeDraft_X2_filled
theorem dX5_takeDraft_0 : decode cX5_takeDraft 0 = .ok (.aload_n 0, 1) := by decide +kernel
theorem dX5_takeDraft_1 : decode cX5_takeDraft 1 = .ok (.getfield 40, 3) := by decide +kernel
theorem dX5_takeDraft_4 : decode cX5_takeDraft 4 = .ok (.invokevirtual 227, 3) := by decide +kernel
theorem dX5_takeDraft_7 : decode cX5_takeDraft 7 = .ok (.ifCond .ne 6, 3) := by decide +kernel
theorem dX5_takeDraft_10 : decode cX5_takeDraft 10 = .ok (.bipush (-5), 2) := by decide +kernel
theorem dX5_takeDraft_12 : decode cX5_takeDraft 12 = .ok (.ireturn, 1) := by decide +kernel
theorem dX5_takeDraft_13 : decode cX5_takeDraft 13 = .ok (.aload_n 0, 1) := by decide +kernel
theorem dX5_takeDraft_14 : decode cX5_takeDraft 14 = .ok (.getfield 36, 3) := by decide +kernel
theorem dX5_takeDraft_17 : decode cX5_takeDraft 17 = .ok (.aload_n 0, 1) := by decide +kernel
theorem dX5_takeDraft_18 : decode cX5_takeDraft 18 = .ok (.getfield 40, 3) := by decide +kernel
theorem dX5_takeDraft_21 : decode cX5_takeDraft 21 = .ok (.invokevirtual 137, 3) := by decide +kernel
theorem dX5_takeDraft_24 : decode cX5_takeDraft 24 = .ok (.aload_n 0, 1) := by decide +kernel
theorem dX5_takeDraft_25 : decode cX5_takeDraft 25 = .ok (.getfield 53, 3) := by decide +kernel
theorem dX5_takeDraft_28 : decode cX5_takeDraft 28 = .ok (.invokevirtual 134, 3) := by decide +kernel
theorem dX5_takeDraft_31 : decode cX5_takeDraft 31 = .ok (.aload_n 0, 1) := by decide +kernel
theorem dX5_takeDraft_32 : decode cX5_takeDraft 32 = .ok (.getfield 36, 3) := by decide +kernel
theorem dX5_takeDraft_35 : decode cX5_takeDraft 35 = .ok (.invokevirtual 119, 3) := by decide +kernel
theorem dX5_takeDraft_38 : decode cX5_takeDraft 38 = .ok (.ireturn, 1) := by decide +kernel
set_option maxRecDepth 20000 in
theorem ggX5_waysDown_X1_digit : GoodIn wsX5_waysDown wsX1_digit := goodIn_r _ [5, 6, 19] (by decide +kernel) (by decide +kernel)
set_option maxRecDepth 20000 in
theorem gX5_waysDown_X1_digit : GoodIn wsX5_waysDown (wsV RX5 212 RX1 yX1_digit wsX1_digit) := goodIn_app (goodIn_of _ (by decide +kernel)) ggX5_waysDown_X1_digit
set_option maxRecDepth 20000 in
theorem ggX5_waysDown_X1_exchange : GoodIn wsX5_waysDown wsX1_exchange := goodIn_r _ [10, 11, 2, 3, 4, 5, 6, 12, 13, 14, 15, 19] (by decide +kernel) (by decide +kernel)
set_option maxRecDepth 20000 in
theorem gX5_waysDown_X1_exchange : GoodIn wsX5_waysDown (wsV RX5 208 RX1 yX1_exchange wsX1_exchange) := goodIn_app (goodIn_of _ (by decide +kernel)) ggX5_waysDown_X1_exchange
set_option maxRecDepth 20000 in
theorem ggX5_waysDown_X5_waysDown : GoodIn wsX5_waysDown wsX5_waysDown := goodIn_r _ [0, 1, 2, 3, 4, 5, 6, 7, 8, 9, 10, 11, 12, 13, 14, 15, 16, 17, 18, 19] (by decide +kernel) (by decide +kernel)
set_option maxRecDepth 20000 in
theorem gX5_waysDown_X5_waysDown : GoodIn wsX5_waysDown (va_wsS RX5 98 yX5_waysDown wsX5_waysDown) := goodIn_app (goodIn_of _ (by decide +kernel)) ggX5_waysDown_X5_waysDown
theorem dX5_waysDown_0 : decode cX5_waysDown 0 = .ok (.iload_n 1, 1) := by decide +kernel
theorem dX5_waysDown_1 : decode cX5_waysDown 1 = .ok (.bipush 10, 2) := by decide +kernel
theorem dX5_waysDown_3 : decode cX5_waysDown 3 = .ok (.if_icmp .le 5, 3) := by decide +kernel
theorem dX5_waysDown_6 : decode cX5_waysDown 6 = .ok (.iconst 0, 1) := by decide +kernel
theorem dX5_waysDown_7 : decode cX5_waysDown 7 = .ok (.ireturn, 1) := by decide +kernel
theorem dX5_waysDown_8 : decode cX5_waysDown 8 = .ok (.iconst 0, 1) := by decide +kernel
theorem dX5_waysDown_9 : decode cX5_waysDown 9 = .ok (.istore_n 2, 1) := by decide +kernel
theorem dX5_waysDown_10 : decode cX5_waysDown 10 = .ok (.iconst 1, 1) := by decide +kernel
theorem dX5_waysDown_11 : decode cX5_waysDown 11 = .ok (.istore_n 3, 1) := by decide +kernel
theorem dX5_waysDown_12 : decode cX5_waysDown 12 = .ok (.iconst 1, 1) := by decide +kernel
theorem dX5_waysDown_13 : decode cX5_waysDown 13 = .ok (.istore 4, 2) := by decide +kernel
theorem dX5_waysDown_15 : decode cX5_waysDown 15 = .ok (.iload 4, 2) := by decide +kernel
theorem dX5_waysDown_17 : decode cX5_waysDown 17 = .ok (.iconst 5, 1) := by decide +kernel
theorem dX5_waysDown_18 : decode cX5_waysDown 18 = .ok (.if_icmp .ge 58, 3) := by decide +kernel
theorem dX5_waysDown_21 : decode cX5_waysDown 21 = .ok (.aload_n 0, 1) := by decide +kernel
theorem dX5_waysDown_22 : decode cX5_waysDown 22 = .ok (.iload 4, 2) := by decide +kernel
theorem dX5_waysDown_24 : decode cX5_waysDown 24 = .ok (.invokevirtual 212, 3) := by decide +kernel
theorem dX5_waysDown_27 : decode cX5_waysDown 27 = .ok (.aload_n 0, 1) := by decide +kernel
theorem dX5_waysDown_28 : decode cX5_waysDown 28 = .ok (.iload 4, 2) := by decide +kernel
theorem dX5_waysDown_30 : decode cX5_waysDown 30 = .ok (.iconst 1, 1) := by decide +kernel
theorem dX5_waysDown_31 : decode cX5_waysDown 31 = .ok (.iadd, 1) := by decide +kernel
theorem dX5_waysDown_32 : decode cX5_waysDown 32 = .ok (.invokevirtual 212, 3) := by decide +kernel
theorem dX5_waysDown_35 : decode cX5_waysDown 35 = .ok (.if_icmp .le 35, 3) := by decide +kernel
theorem dX5_waysDown_38 : decode cX5_waysDown 38 = .ok (.iconst 0, 1) := by decide +kernel
theorem dX5_waysDown_39 : decode cX5_waysDown 39 = .ok (.istore_n 3, 1) := by decide +kernel
theorem dX5_waysDown_40 : decode cX5_waysDown 40 = .ok (.aload_n 0, 1) := by decide +kernel
theorem dX5_waysDown_41 : decode cX5_waysDown 41 = .ok (.iload 4, 2) := by decide +kernel
theorem dX5_waysDown_43 : decode cX5_waysDown 43 = .ok (.iload 4, 2) := by decide +kernel
theorem dX5_waysDown_45 : decode cX5_waysDown 45 = .ok (.iconst 1, 1) := by decide +kernel
theorem dX5_waysDown_46 : decode cX5_waysDown 46 = .ok (.iadd, 1) := by decide +kernel
theorem dX5_waysDown_47 : decode cX5_waysDown 47 = .ok (.invokevirtual 208, 3) := by decide +kernel
theorem dX5_waysDown_50 : decode cX5_waysDown 50 = .ok (.iload_n 2, 1) := by decide +kernel
theorem dX5_waysDown_51 : decode cX5_waysDown 51 = .ok (.aload_n 0, 1) := by decide +kernel
theorem dX5_waysDown_52 : decode cX5_waysDown 52 = .ok (.iload_n 1, 1) := by decide +kernel
theorem dX5_waysDown_53 : decode cX5_waysDown 53 = .ok (.iconst 1, 1) := by decide +kernel
theorem dX5_waysDown_54 : decode cX5_waysDown 54 = .ok (.iadd, 1) := by decide +kernel
theorem dX5_waysDown_55 : decode cX5_waysDown 55 = .ok (.invokestatic 98, 3) := by decide +kernel
theorem dX5_waysDown_58 : decode cX5_waysDown 58 = .ok (.iadd, 1) := by decide +kernel
theorem dX5_waysDown_59 : decode cX5_waysDown 59 = .ok (.istore_n 2, 1) := by decide +kernel
theorem dX5_waysDown_60 : decode cX5_waysDown 60 = .ok (.aload_n 0, 1) := by decide +kernel
theorem dX5_waysDown_61 : decode cX5_waysDown 61 = .ok (.iload 4, 2) := by decide +kernel
theorem dX5_waysDown_63 : decode cX5_waysDown 63 = .ok (.iload 4, 2) := by decide +kernel
theorem dX5_waysDown_65 : decode cX5_waysDown 65 = .ok (.iconst 1, 1) := by decide +kernel
theorem dX5_waysDown_66 : decode cX5_waysDown 66 = .ok (.iadd, 1) := by decide +kernel
theorem dX5_waysDown_67 : decode cX5_waysDown 67 = .ok (.invokevirtual 208, 3) := by decide +kernel
theorem dX5_waysDown_70 : decode cX5_waysDown 70 = .ok (.iinc 4 1, 3) := by decide +kernel
theorem dX5_waysDown_73 : decode cX5_waysDown 73 = .ok (.goto (-58), 3) := by decide +kernel
theorem dX5_waysDown_76 : decode cX5_waysDown 76 = .ok (.iload_n 3, 1) := by decide +kernel
theorem dX5_waysDown_77 : decode cX5_waysDown 77 = .ok (.ifCond .eq 7, 3) := by decide +kernel
theorem dX5_waysDown_80 : decode cX5_waysDown 80 = .ok (.iconst 1, 1) := by decide +kernel
theorem dX5_waysDown_81 : decode cX5_waysDown 81 = .ok (.goto 4, 3) := by decide +kernel
theorem dX5_waysDown_84 : decode cX5_waysDown 84 = .ok (.iload_n 2, 1) := by decide +kernel
theorem dX5_waysDown_85 : decode cX5_waysDown 85 = .ok (.ireturn, 1) := by decide +kernel
set_option maxRecDepth 20000 in
theorem ggX5_isMadeBy_X1_becomeMade : GoodIn wsX5_isMadeBy wsX1_becomeMade := goodIn_r _ [6, 7, 8, 9, 5, 10, 11, 12, 13, 14, 15, 16, 17, 18, 19, 20, 21, 22, 23, 36] (by decide +kernel) (by decide +kernel)
set_option maxRecDepth 20000 in
theorem gX5_isMadeBy_X1_becomeMade : GoodIn wsX5_isMadeBy (wsV RX5 181 RX1 yX1_becomeMade wsX1_becomeMade) := goodIn_app (goodIn_of _ (by decide +kernel)) ggX5_isMadeBy_X1_becomeMade
set_option maxRecDepth 20000 in
theorem ggX5_isMadeBy_X1_isSame : GoodIn wsX5_isMadeBy wsX1_isSame := goodIn_r _ [27, 11, 36] (by decide +kernel) (by decide +kernel)
set_option maxRecDepth 20000 in
theorem gX5_isMadeBy_X1_isSame : GoodIn wsX5_isMadeBy (wsV RX5 230 RX1 yX1_isSame wsX1_isSame) := goodIn_app (goodIn_of _ (by decide +kernel)) ggX5_isMadeBy_X1_isSame
theorem dX5_isMadeBy_0 : decode cX5_isMadeBy 0 = .ok (.aload_n 0, 1) := by decide +kernel
theorem dX5_isMadeBy_1 : decode cX5_isMadeBy 1 = .ok (.getfield 18, 3) := by decide +kernel
theorem dX5_isMadeBy_4 : decode cX5_isMadeBy 4 = .ok (.iload_n 2, 1) := by decide +kernel
theorem dX5_isMadeBy_5 : decode cX5_isMadeBy 5 = .ok (.invokevirtual 181, 3) := by decide +kernel
theorem dX5_isMadeBy_8 : decode cX5_isMadeBy 8 = .ok (.aload_n 0, 1) := by decide +kernel
theorem dX5_isMadeBy_9 : decode cX5_isMadeBy 9 = .ok (.getfield 18, 3) := by decide +kernel
theorem dX5_isMadeBy_12 : decode cX5_isMadeBy 12 = .ok (.aload_n 1, 1) := by decide +kernel
theorem dX5_isMadeBy_13 : decode cX5_isMadeBy 13 = .ok (.invokevirtual 230, 3) := by decide +kernel
theorem dX5_isMadeBy_16 : decode cX5_isMadeBy 16 = .ok (.ireturn, 1) := by decide +kernel
set_option maxRecDepth 20000 in
theorem ggX5_isCrossAt_X5_bitOf : GoodIn wsX5_isCrossAt wsX5_bitOf := goodIn_r _ [4, 5] (by decide +kernel) (by decide +kernel)
set_option maxRecDepth 20000 in
theorem gX5_isCrossAt_X5_bitOf : GoodIn wsX5_isCrossAt (va_wsS RX5 233 yX5_bitOf wsX5_bitOf) := goodIn_app (goodIn_of _ (by decide +kernel)) ggX5_isCrossAt_X5_bitOf
theorem dX5_isCrossAt_0 : decode cX5_isCrossAt 0 = .ok (.iload_n 1, 1) := by decide +kernel
theorem dX5_isCrossAt_1 : decode cX5_isCrossAt 1 = .ok (.iconst 1, 1) := by decide +kernel
theorem dX5_isCrossAt_2 : decode cX5_isCrossAt 2 = .ok (.if_icmp .lt 20, 3) := by decide +kernel
theorem dX5_isCrossAt_5 : decode cX5_isCrossAt 5 = .ok (.iload_n 1, 1) := by decide +kernel
theorem dX5_isCrossAt_6 : decode cX5_isCrossAt 6 = .ok (.iconst 4, 1) := by decide +kernel
theorem dX5_isCrossAt_7 : decode cX5_isCrossAt 7 = .ok (.if_icmp .gt 15, 3) := by decide +kernel
theorem dX5_isCrossAt_10 : decode cX5_isCrossAt 10 = .ok (.iload_n 2, 1) := by decide +kernel
theorem dX5_isCrossAt_11 : decode cX5_isCrossAt 11 = .ok (.iconst 1, 1) := by decide +kernel
theorem dX5_isCrossAt_12 : decode cX5_isCrossAt 12 = .ok (.if_icmp .lt 10, 3) := by decide +kernel
theorem dX5_isCrossAt_15 : decode cX5_isCrossAt 15 = .ok (.iload_n 2, 1) := by decide +kernel
theorem dX5_isCrossAt_16 : decode cX5_isCrossAt 16 = .ok (.iconst 5, 1) := by decide +kernel
theorem dX5_isCrossAt_17 : decode cX5_isCrossAt 17 = .ok (.iload_n 1, 1) := by decide +kernel
theorem dX5_isCrossAt_18 : decode cX5_isCrossAt 18 = .ok (.isub, 1) := by decide +kernel
theorem dX5_isCrossAt_19 : decode cX5_isCrossAt 19 = .ok (.if_icmp .le 5, 3) := by decide +kernel
theorem dX5_isCrossAt_22 : decode cX5_isCrossAt 22 = .ok (.iconst 0, 1) := by decide +kernel
theorem dX5_isCrossAt_23 : decode cX5_isCrossAt 23 = .ok (.ireturn, 1) := by decide +kernel
theorem dX5_isCrossAt_24 : decode cX5_isCrossAt 24 = .ok (.iload_n 0, 1) := by decide +kernel
theorem dX5_isCrossAt_25 : decode cX5_isCrossAt 25 = .ok (.iload_n 1, 1) := by decide +kernel
theorem dX5_isCrossAt_26 : decode cX5_isCrossAt 26 = .ok (.iload_n 2, 1) := by decide +kernel
theorem dX5_isCrossAt_27 : decode cX5_isCrossAt 27 = .ok (.invokestatic 233, 3) := by decide +kernel
theorem dX5_isCrossAt_30 : decode cX5_isCrossAt 30 = .ok (.iand, 1) := by decide +kernel
theorem dX5_isCrossAt_31 : decode cX5_isCrossAt 31 = .ok (.ifCond .eq 7, 3) := by decide +kernel
theorem dX5_isCrossAt_34 : decode cX5_isCrossAt 34 = .ok (.iconst 1, 1) := by decide +kernel
theorem dX5_isCrossAt_35 : decode cX5_isCrossAt 35 = .ok (.goto 4, 3) := by decide +kernel
theorem dX5_isCrossAt_38 : decode cX5_isCrossAt 38 = .ok (.iconst 0, 1) := by decide +kernel
theorem dX5_isCrossAt_39 : decode cX5_isCrossAt 39 = .ok (.ireturn, 1) := by decide +kernel
theorem dX5_bitOf_0 : decode cX5_bitOf 0 = .ok (.iload_n 0, 1) := by decide +kernel
theorem dX5_bitOf_1 : decode cX5_bitOf 1 = .ok (.iconst 1, 1) := by decide +kernel
theorem dX5_bitOf_2 : decode cX5_bitOf 2 = .ok (.if_icmp .lt 8, 3) := by decide +kernel
theorem dX5_bitOf_5 : decode cX5_bitOf 5 = .ok (.iload_n 0, 1) := by decide +kernel
theorem dX5_bitOf_6 : decode cX5_bitOf 6 = .ok (.iconst 4, 1) := by decide +kernel
theorem dX5_bitOf_7 : decode cX5_bitOf 7 = .ok (.if_icmp .le 7, 3) := by decide +kernel
theorem dX5_bitOf_10 : decode cX5_bitOf 10 = .ok (.iconst 0, 1) := by decide +kernel
theorem dX5_bitOf_11 : decode cX5_bitOf 11 = .ok (.goto 14, 3) := by decide +kernel
theorem dX5_bitOf_14 : decode cX5_bitOf 14 = .ok (.iconst 1, 1) := by decide +kernel
theorem dX5_bitOf_15 : decode cX5_bitOf 15 = .ok (.getstatic 237, 3) := by decide +kernel
theorem dX5_bitOf_18 : decode cX5_bitOf 18 = .ok (.iload_n 0, 1) := by decide +kernel
theorem dX5_bitOf_19 : decode cX5_bitOf 19 = .ok (.iaload, 1) := by decide +kernel
theorem dX5_bitOf_20 : decode cX5_bitOf 20 = .ok (.iload_n 1, 1) := by decide +kernel
theorem dX5_bitOf_21 : decode cX5_bitOf 21 = .ok (.iadd, 1) := by decide +kernel
theorem dX5_bitOf_22 : decode cX5_bitOf 22 = .ok (.iconst 1, 1) := by decide +kernel
theorem dX5_bitOf_23 : decode cX5_bitOf 23 = .ok (.isub, 1) := by decide +kernel
theorem dX5_bitOf_24 : decode cX5_bitOf 24 = .ok (.ishl, 1) := by decide +kernel
theorem dX5_bitOf_25 : decode cX5_bitOf 25 = .ok (.ireturn, 1) := by decide +kernel
set_option maxRecDepth 20000 in
theorem ggX5_putLadder_X5_isCrossAt : GoodIn wsX5_putLadder wsX5_isCrossAt := goodIn_r _ [5, 6, 7, 4, 8, 9] (by decide +kernel) (by decide +kernel)
set_option maxRecDepth 20000 in
theorem gX5_putLadder_X5_isCrossAt : GoodIn wsX5_putLadder (va_wsS RX5 241 yX5_isCrossAt wsX5_isCrossAt) := goodIn_app (goodIn_of _ (by decide +kernel)) ggX5_putLadder_X5_isCrossAt
set_option maxRecDepth 20000 in
theorem ggX5_putLadder_X5_bitOf : GoodIn wsX5_putLadder wsX5_bitOf := goodIn_r _ [8, 9] (by decide +kernel) (by decide +kernel)
set_option maxRecDepth 20000 in
theorem gX5_putLadder_X5_bitOf : GoodIn wsX5_putLadder (va_wsS RX5 233 yX5_bitOf wsX5_bitOf) := goodIn_app (goodIn_of _ (by decide +kernel)) ggX5_putLadder_X5_bitOf
set_option maxRecDepth 20000 in
theorem ggX5_putLadder_X0_put : GoodIn wsX5_putLadder wsX0_put := goodIn_r _ [14, 15, 16, 17, 18, 19, 20, 29, 30] (by decide +kernel) (by decide +kernel)
set_option maxRecDepth 20000 in
theorem gX5_putLadder_X0_put : GoodIn wsX5_putLadder (wsV RX5 245 RX0 yX0_put wsX0_put) := goodIn_app (goodIn_of _ (by decide +kernel)) ggX5_putLadder_X0_put
theorem dX5_putLadder_0 : decode cX5_putLadder 0 = .ok (.iload_n 1, 1) := by decide +kernel
theorem dX5_putLadder_1 : decode cX5_putLadder 1 = .ok (.iload_n 2, 1) := by decide +kernel
theorem dX5_putLadder_2 : decode cX5_putLadder 2 = .ok (.iload_n 3, 1) := by decide +kernel
theorem dX5_putLadder_3 : decode cX5_putLadder 3 = .ok (.invokestatic 241, 3) := by decide +kernel
theorem dX5_putLadder_6 : decode cX5_putLadder 6 = .ok (.ifCond .eq 14, 3) := by decide +kernel
theorem dX5_putLadder_9 : decode cX5_putLadder 9 = .ok (.iload_n 1, 1) := by decide +kernel
theorem dX5_putLadder_10 : decode cX5_putLadder 10 = .ok (.iload_n 2, 1) := by decide +kernel
theorem dX5_putLadder_11 : decode cX5_putLadder 11 = .ok (.iload_n 3, 1) := by decide +kernel
theorem dX5_putLadder_12 : decode cX5_putLadder 12 = .ok (.iconst 1, 1) := by decide +kernel
theorem dX5_putLadder_13 : decode cX5_putLadder 13 = .ok (.iadd, 1) := by decide +kernel
theorem dX5_putLadder_14 : decode cX5_putLadder 14 = .ok (.invokestatic 241, 3) := by decide +kernel
theorem dX5_putLadder_17 : decode cX5_putLadder 17 = .ok (.ifCond .eq 4, 3) := by decide +kernel
theorem dX5_putLadder_20 : decode cX5_putLadder 20 = .ok (.return_, 1) := by decide +kernel
theorem dX5_putLadder_21 : decode cX5_putLadder 21 = .ok (.iload_n 2, 1) := by decide +kernel
theorem dX5_putLadder_22 : decode cX5_putLadder 22 = .ok (.iconst 1, 1) := by decide +kernel
theorem dX5_putLadder_23 : decode cX5_putLadder 23 = .ok (.isub, 1) := by decide +kernel
theorem dX5_putLadder_24 : decode cX5_putLadder 24 = .ok (.istore 4, 2) := by decide +kernel
theorem dX5_putLadder_26 : decode cX5_putLadder 26 = .ok (.iload 4, 2) := by decide +kernel
theorem dX5_putLadder_28 : decode cX5_putLadder 28 = .ok (.iconst 1, 1) := by decide +kernel
theorem dX5_putLadder_29 : decode cX5_putLadder 29 = .ok (.if_icmp .lt 73, 3) := by decide +kernel
theorem dX5_putLadder_32 : decode cX5_putLadder 32 = .ok (.iload_n 1, 1) := by decide +kernel
theorem dX5_putLadder_33 : decode cX5_putLadder 33 = .ok (.iload 4, 2) := by decide +kernel
theorem dX5_putLadder_35 : decode cX5_putLadder 35 = .ok (.iload_n 3, 1) := by decide +kernel
theorem dX5_putLadder_36 : decode cX5_putLadder 36 = .ok (.invokestatic 241, 3) := by decide +kernel
theorem dX5_putLadder_39 : decode cX5_putLadder 39 = .ok (.istore 5, 2) := by decide +kernel
theorem dX5_putLadder_41 : decode cX5_putLadder 41 = .ok (.iload_n 1, 1) := by decide +kernel
theorem dX5_putLadder_42 : decode cX5_putLadder 42 = .ok (.iload 4, 2) := by decide +kernel
theorem dX5_putLadder_44 : decode cX5_putLadder 44 = .ok (.iload_n 3, 1) := by decide +kernel
theorem dX5_putLadder_45 : decode cX5_putLadder 45 = .ok (.iconst 1, 1) := by decide +kernel
theorem dX5_putLadder_46 : decode cX5_putLadder 46 = .ok (.iadd, 1) := by decide +kernel
theorem dX5_putLadder_47 : decode cX5_putLadder 47 = .ok (.invokestatic 241, 3) := by decide +kernel
theorem dX5_putLadder_50 : decode cX5_putLadder 50 = .ok (.istore 6, 2) := by decide +kernel
theorem dX5_putLadder_52 : decode cX5_putLadder 52 = .ok (.iload 5, 2) := by decide +kernel
theorem dX5_putLadder_54 : decode cX5_putLadder 54 = .ok (.ifCond .ne 31, 3) := by decide +kernel
theorem dX5_putLadder_57 : decode cX5_putLadder 57 = .ok (.iload 6, 2) := by decide +kernel
theorem dX5_putLadder_59 : decode cX5_putLadder 59 = .ok (.ifCond .ne 26, 3) := by decide +kernel
theorem dX5_putLadder_62 : decode cX5_putLadder 62 = .ok (.aload_n 0, 1) := by decide +kernel
theorem dX5_putLadder_63 : decode cX5_putLadder 63 = .ok (.getfield 29, 3) := by decide +kernel
theorem dX5_putLadder_66 : decode cX5_putLadder 66 = .ok (.iload_n 1, 1) := by decide +kernel
theorem dX5_putLadder_67 : decode cX5_putLadder 67 = .ok (.iload_n 2, 1) := by decide +kernel
theorem dX5_putLadder_68 : decode cX5_putLadder 68 = .ok (.iload_n 3, 1) := by decide +kernel
theorem dX5_putLadder_69 : decode cX5_putLadder 69 = .ok (.invokestatic 233, 3) := by decide +kernel
theorem dX5_putLadder_72 : decode cX5_putLadder 72 = .ok (.ixor, 1) := by decide +kernel
theorem dX5_putLadder_73 : decode cX5_putLadder 73 = .ok (.iload 4, 2) := by decide +kernel
theorem dX5_putLadder_75 : decode cX5_putLadder 75 = .ok (.iload_n 3, 1) := by decide +kernel
theorem dX5_putLadder_76 : decode cX5_putLadder 76 = .ok (.iconst 1, 1) := by decide +kernel
theorem dX5_putLadder_77 : decode cX5_putLadder 77 = .ok (.iadd, 1) := by decide +kernel
theorem dX5_putLadder_78 : decode cX5_putLadder 78 = .ok (.invokestatic 233, 3) := by decide +kernel
theorem dX5_putLadder_81 : decode cX5_putLadder 81 = .ok (.ior, 1) := by decide +kernel
theorem dX5_putLadder_82 : decode cX5_putLadder 82 = .ok (.invokevirtual 245, 3) := by decide +kernel
theorem dX5_putLadder_85 : decode cX5_putLadder 85 = .ok (.iload 5, 2) := by decide +kernel
theorem dX5_putLadder_87 : decode cX5_putLadder 87 = .ok (.ifCond .eq 8, 3) := by decide +kernel
theorem dX5_putLadder_90 : decode cX5_putLadder 90 = .ok (.iload 6, 2) := by decide +kernel
theorem dX5_putLadder_92 : decode cX5_putLadder 92 = .ok (.ifCond .ne 4, 3) := by decide +kernel
theorem dX5_putLadder_95 : decode cX5_putLadder 95 = .ok (.return_, 1) := by decide +kernel
theorem dX5_putLadder_96 : decode cX5_putLadder 96 = .ok (.iinc 4 (-1), 3) := by decide +kernel
theorem dX5_putLadder_99 : decode cX5_putLadder 99 = .ok (.goto (-73), 3) := by decide +kernel
theorem dX5_putLadder_102 : decode cX5_putLadder 102 = .ok (.return_, 1) := by decide +kernel
set_option maxRecDepth 20000 in
theorem ggX5_putExchanged_X1_exchange : GoodIn wsX5_putExchanged wsX1_exchange := goodIn_r _ [6, 7, 8, 9, 5, 10, 11, 12, 13, 14, 15, 51] (by decide +kernel) (by decide +kernel)
set_option maxRecDepth 20000 in
theorem gX5_putExchanged_X1_exchange : GoodIn wsX5_putExchanged (wsV RX5 208 RX1 yX1_exchange wsX1_exchange) := goodIn_app (goodIn_of _ (by decide +kernel)) ggX5_putExchanged_X1_exchange
set_option maxRecDepth 20000 in
theorem ggX5_putExchanged_X1_inversions : GoodIn wsX5_putExchanged wsX1_inversions := goodIn_r _ [19, 20, 21, 22, 5, 23, 7, 8, 9, 10, 11, 51] (by decide +kernel) (by decide +kernel)
set_option maxRecDepth 20000 in
theorem gX5_putExchanged_X1_inversions : GoodIn wsX5_putExchanged (wsV RX5 65 RX1 yX1_inversions wsX1_inversions) := goodIn_app (goodIn_of _ (by decide +kernel)) ggX5_putExchanged_X1_inversions
set_option maxRecDepth 20000 in
theorem ggX5_putExchanged_X1_plainNumber : GoodIn wsX5_putExchanged wsX1_plainNumber := goodIn_r _ [27, 11, 28, 29, 30, 5, 31, 51] (by decide +kernel) (by decide +kernel)
set_option maxRecDepth 20000 in
theorem gX5_putExchanged_X1_plainNumber : GoodIn wsX5_putExchanged (wsV RX5 61 RX1 yX1_plainNumber wsX1_plainNumber) := goodIn_app (goodIn_of _ (by decide +kernel)) ggX5_putExchanged_X1_plainNumber
set_option maxRecDepth 20000 in
theorem ggX5_putExchanged_X0_put : GoodIn wsX5_putExchanged wsX0_put := goodIn_r _ [36, 37, 38, 39, 40, 41, 42, 52, 53] (by decide +kernel) (by decide +kernel)
set_option maxRecDepth 20000 in
theorem gX5_putExchanged_X0_put : GoodIn wsX5_putExchanged (wsV RX5 245 RX0 yX0_put wsX0_put) := goodIn_app (goodIn_of _ (by decide +kernel)) ggX5_putExchanged_X0_put
theorem dX5_putExchanged_0 : decode cX5_putExchanged 0 = .ok (.aload_n 1, 1) := by decide +kernel
theorem dX5_putExchanged_1 : decode cX5_putExchanged 1 = .ok (.iload_n 2, 1) := by decide +kernel
theorem dX5_putExchanged_2 : decode cX5_putExchanged 2 = .ok (.iload_n 3, 1) := by decide +kernel
theorem dX5_putExchanged_3 : decode cX5_putExchanged 3 = .ok (.invokevirtual 208, 3) := by decide +kernel
theorem dX5_putExchanged_6 : decode cX5_putExchanged 6 = .ok (.aload_n 1, 1) := by decide +kernel
theorem dX5_putExchanged_7 : decode cX5_putExchanged 7 = .ok (.invokevirtual 65, 3) := by decide +kernel
theorem dX5_putExchanged_10 : decode cX5_putExchanged 10 = .ok (.iload 4, 2) := by decide +kernel
theorem dX5_putExchanged_12 : decode cX5_putExchanged 12 = .ok (.if_icmp .ne 14, 3) := by decide +kernel
theorem dX5_putExchanged_15 : decode cX5_putExchanged 15 = .ok (.aload_n 0, 1) := by decide +kernel
theorem dX5_putExchanged_16 : decode cX5_putExchanged 16 = .ok (.getfield 29, 3) := by decide +kernel
theorem dX5_putExchanged_19 : decode cX5_putExchanged 19 = .ok (.aload_n 1, 1) := by decide +kernel
theorem dX5_putExchanged_20 : decode cX5_putExchanged 20 = .ok (.invokevirtual 61, 3) := by decide +kernel
theorem dX5_putExchanged_23 : decode cX5_putExchanged 23 = .ok (.invokevirtual 245, 3) := by decide +kernel
theorem dX5_putExchanged_26 : decode cX5_putExchanged 26 = .ok (.aload_n 1, 1) := by decide +kernel
theorem dX5_putExchanged_27 : decode cX5_putExchanged 27 = .ok (.iload_n 2, 1) := by decide +kernel
theorem dX5_putExchanged_28 : decode cX5_putExchanged 28 = .ok (.iload_n 3, 1) := by decide +kernel
theorem dX5_putExchanged_29 : decode cX5_putExchanged 29 = .ok (.invokevirtual 208, 3) := by decide +kernel
theorem dX5_putExchanged_32 : decode cX5_putExchanged 32 = .ok (.return_, 1) := by decide +kernel
end
section
theorem dX6_init_0 : decode cX6_init 0 = .ok (.aload_n 0, 1) := by decide +kernel
theorem dX6_init_1 : decode cX6_init 1 = .ok (.invokespecial 1, 3) := by decide +kernel
theorem dX6_init_4 : decode cX6_init 4 = .ok (.aload_n 0, 1) := by decide +kernel
theorem dX6_init_5 : decode cX6_init 5 = .ok (.bipush 10, 2) := by decide +kernel
theorem dX6_init_7 : decode cX6_init 7 = .ok (.newarray .int, 2) := by decide +kernel
theorem dX6_init_9 : decode cX6_init 9 = .ok (.putfield 7, 3) := by decide +kernel
theorem dX6_init_12 : decode cX6_init 12 = .ok (.aload_n 0, 1) := by decide +kernel
theorem dX6_init_13 : decode cX6_init 13 = .ok (.bipush 10, 2) := by decide +kernel
theorem dX6_init_15 : decode cX6_init 15 = .ok (.newarray .int, 2) := by decide +kernel
theorem dX6_init_17 : decode cX6_init 17 = .ok (.putfield 13, 3) := by decide +kernel
theorem dX6_init_20 : decode cX6_init 20 = .ok (.aload_n 0, 1) := by decide +kernel
theorem dX6_init_21 : decode cX6_init 21 = .ok (.bipush 10, 2) := by decide +kernel
theorem dX6_init_23 : decode cX6_init 23 = .ok (.newarray .int, 2) := by decide +kernel
theorem dX6_init_25 : decode cX6_init 25 = .ok (.putfield 16, 3) := by decide +kernel
theorem dX6_init_28 : decode cX6_init 28 = .ok (.aload_n 0, 1) := by decide +kernel
theorem dX6_init_29 : decode cX6_init 29 = .ok (.bipush 120, 2) := by decide +kernel
theorem dX6_init_31 : decode cX6_init 31 = .ok (.newarray .int, 2) := by decide +kernel
theorem dX6_init_33 : decode cX6_init 33 = .ok (.putfield 19, 3) := by decide +kernel
theorem dX6_init_36 : decode cX6_init 36 = .ok (.aload_n 0, 1) := by decide +kernel
theorem dX6_init_37 : decode cX6_init 37 = .ok (.sipush 3024, 3) := by decide +kernel
theorem dX6_init_40 : decode cX6_init 40 = .ok (.newarray .long, 2) := by decide +kernel
theorem dX6_init_42 : decode cX6_init 42 = .ok (.putfield 22, 3) := by decide +kernel
theorem dX6_init_45 : decode cX6_init 45 = .ok (.aload_n 0, 1) := by decide +kernel
theorem dX6_init_46 : decode cX6_init 46 = .ok (.sipush 3024, 3) := by decide +kernel
theorem dX6_init_49 : decode cX6_init 49 = .ok (.newarray .long, 2) := by decide +kernel
theorem dX6_init_51 : decode cX6_init 51 = .ok (.putfield 26, 3) := by decide +kernel
theorem dX6_init_54 : decode cX6_init 54 = .ok (.aload_n 0, 1) := by decide +kernel
theorem dX6_init_55 : decode cX6_init 55 = .ok (.bipush 64, 2) := by decide +kernel
theorem dX6_init_57 : decode cX6_init 57 = .ok (.newarray .int, 2) := by decide +kernel
theorem dX6_init_59 : decode cX6_init 59 = .ok (.putfield 29, 3) := by decide +kernel
theorem dX6_init_62 : decode cX6_init 62 = .ok (.aload_n 0, 1) := by decide +kernel
theorem dX6_init_63 : decode cX6_init 63 = .ok (.sipush 3024, 3) := by decide +kernel
theorem dX6_init_66 : decode cX6_init 66 = .ok (.newarray .long, 2) := by decide +kernel
theorem dX6_init_68 : decode cX6_init 68 = .ok (.putfield 32, 3) := by decide +kernel
theorem dX6_init_71 : decode cX6_init 71 = .ok (.aload_n 0, 1) := by decide +kernel
theorem dX6_init_72 : decode cX6_init 72 = .ok (.sipush 3024, 3) := by decide +kernel
theorem dX6_init_75 : decode cX6_init 75 = .ok (.newarray .long, 2) := by decide +kernel
theorem dX6_init_77 : decode cX6_init 77 = .ok (.putfield 35, 3) := by decide +kernel
theorem dX6_init_80 : decode cX6_init 80 = .ok (.aload_n 0, 1) := by decide +kernel
theorem dX6_init_81 : decode cX6_init 81 = .ok (.ldc 38, 2) := by decide +kernel
theorem dX6_init_83 : decode cX6_init 83 = .ok (.newarray .long, 2) := by decide +kernel
theorem dX6_init_85 : decode cX6_init 85 = .ok (.putfield 39, 3) := by decide +kernel
theorem dX6_init_88 : decode cX6_init 88 = .ok (.aload_n 0, 1) := by decide +kernel
theorem dX6_init_89 : decode cX6_init 89 = .ok (.sipush 3024, 3) := by decide +kernel
theorem dX6_init_92 : decode cX6_init 92 = .ok (.newarray .int, 2) := by decide +kernel
theorem dX6_init_94 : decode cX6_init 94 = .ok (.putfield 42, 3) := by decide +kernel
theorem dX6_init_97 : decode cX6_init 97 = .ok (.aload_n 0, 1) := by decide +kernel
theorem dX6_init_98 : decode cX6_init 98 = .ok (.sipush 3024, 3) := by decide +kernel
theorem dX6_init_101 : decode cX6_init 101 = .ok (.newarray .long, 2) := by decide +kernel
theorem dX6_init_103 : decode cX6_init 103 = .ok (.putfield 45, 3) := by decide +kernel
theorem dX6_init_106 : decode cX6_init 106 = .ok (.aload_n 0, 1) := by decide +kernel
theorem dX6_init_107 : decode cX6_init 107 = .ok (.bipush 64, 2) := by decide +kernel
theorem dX6_init_109 : decode cX6_init 109 = .ok (.newarray .int, 2) := by decide +kernel
theorem dX6_init_111 : decode cX6_init 111 = .ok (.putfield 48, 3) := by decide +kernel
theorem dX6_init_114 : decode cX6_init 114 = .ok (.return_, 1) := by decide +kernel
theorem dX6_within_0 : decode cX6_within 0 = .ok (.iload_n 0, 1) := by decide +kernel
theorem dX6_within_1 : decode cX6_within 1 = .ok (.iload_n 1, 1) := by decide +kernel
theorem dX6_within_2 : decode cX6_within 2 = .ok (.if_icmp .lt 12, 3) := by decide +kernel
theorem dX6_within_5 : decode cX6_within 5 = .ok (.iload_n 0, 1) := by decide +kernel
theorem dX6_within_6 : decode cX6_within 6 = .ok (.iload_n 2, 1) := by decide +kernel
theorem dX6_within_7 : decode cX6_within 7 = .ok (.if_icmp .gt 7, 3) := by decide +kernel
theorem dX6_within_10 : decode cX6_within 10 = .ok (.iconst 1, 1) := by decide +kernel
theorem dX6_within_11 : decode cX6_within 11 = .ok (.goto 4, 3) := by decide +kernel
theorem dX6_within_14 : decode cX6_within 14 = .ok (.iconst 0, 1) := by decide +kernel
theorem dX6_within_15 : decode cX6_within 15 = .ok (.ireturn, 1) := by decide +kernel
set_option maxRecDepth 20000 in
theorem ggX6_lays_X6_within : GoodIn wsX6_lays wsX6_within := goodIn_r _ [4] (by decide +kernel) (by decide +kernel)
set_option maxRecDepth 20000 in
theorem gX6_lays_X6_within : GoodIn wsX6_lays (va_wsS RX6 51 yX6_within wsX6_within) := goodIn_app (goodIn_of _ (by decide +kernel)) ggX6_lays_X6_within
theorem dX6_lays_0 : decode cX6_lays 0 = .ok (.iconst 0, 1) := by decide +kernel
theorem dX6_lays_1 : decode cX6_lays 1 = .ok (.istore_n 2, 1) := by decide +kernel
theorem dX6_lays_2 : decode cX6_lays 2 = .ok (.iload_n 0, 1) := by decide +kernel
theorem dX6_lays_3 : decode cX6_lays 3 = .ok (.istore_n 3, 1) := by decide +kernel
theorem dX6_lays_4 : decode cX6_lays 4 = .ok (.iload_n 3, 1) := by decide +kernel
theorem dX6_lays_5 : decode cX6_lays 5 = .ok (.ifCond .le 14, 3) := by decide +kernel
theorem dX6_lays_8 : decode cX6_lays 8 = .ok (.iinc 2 1, 3) := by decide +kernel
theorem dX6_lays_11 : decode cX6_lays 11 = .ok (.iload_n 3, 1) := by decide +kernel
theorem dX6_lays_12 : decode cX6_lays 12 = .ok (.bipush 10, 2) := by decide +kernel
theorem dX6_lays_14 : decode cX6_lays 14 = .ok (.idiv, 1) := by decide +kernel
theorem dX6_lays_15 : decode cX6_lays 15 = .ok (.istore_n 3, 1) := by decide +kernel
theorem dX6_lays_16 : decode cX6_lays 16 = .ok (.goto (-12), 3) := by decide +kernel
theorem dX6_lays_19 : decode cX6_lays 19 = .ok (.iload_n 2, 1) := by decide +kernel
theorem dX6_lays_20 : decode cX6_lays 20 = .ok (.iconst 1, 1) := by decide +kernel
theorem dX6_lays_21 : decode cX6_lays 21 = .ok (.bipush 9, 2) := by decide +kernel
theorem dX6_lays_23 : decode cX6_lays 23 = .ok (.invokestatic 51, 3) := by decide +kernel
theorem dX6_lays_26 : decode cX6_lays 26 = .ok (.istore_n 3, 1) := by decide +kernel
theorem dX6_lays_27 : decode cX6_lays 27 = .ok (.iconst 0, 1) := by decide +kernel
theorem dX6_lays_28 : decode cX6_lays 28 = .ok (.istore 4, 2) := by decide +kernel
theorem dX6_lays_30 : decode cX6_lays 30 = .ok (.iload_n 0, 1) := by decide +kernel
theorem dX6_lays_31 : decode cX6_lays 31 = .ok (.istore 5, 2) := by decide +kernel
theorem dX6_lays_33 : decode cX6_lays 33 = .ok (.iload_n 3, 1) := by decide +kernel
theorem dX6_lays_34 : decode cX6_lays 34 = .ok (.ifCond .eq 7, 3) := by decide +kernel
theorem dX6_lays_37 : decode cX6_lays 37 = .ok (.iload_n 2, 1) := by decide +kernel
theorem dX6_lays_38 : decode cX6_lays 38 = .ok (.goto 4, 3) := by decide +kernel
theorem dX6_lays_41 : decode cX6_lays 41 = .ok (.iconst 0, 1) := by decide +kernel
theorem dX6_lays_42 : decode cX6_lays 42 = .ok (.istore 6, 2) := by decide +kernel
theorem dX6_lays_44 : decode cX6_lays 44 = .ok (.iload 6, 2) := by decide +kernel
theorem dX6_lays_46 : decode cX6_lays 46 = .ok (.ifCond .le 70, 3) := by decide +kernel
theorem dX6_lays_49 : decode cX6_lays 49 = .ok (.aload_n 1, 1) := by decide +kernel
theorem dX6_lays_50 : decode cX6_lays 50 = .ok (.iload 6, 2) := by decide +kernel
theorem dX6_lays_52 : decode cX6_lays 52 = .ok (.iload 5, 2) := by decide +kernel
theorem dX6_lays_54 : decode cX6_lays 54 = .ok (.bipush 10, 2) := by decide +kernel
theorem dX6_lays_56 : decode cX6_lays 56 = .ok (.irem, 1) := by decide +kernel
theorem dX6_lays_57 : decode cX6_lays 57 = .ok (.iastore, 1) := by decide +kernel
theorem dX6_lays_58 : decode cX6_lays 58 = .ok (.iload 5, 2) := by decide +kernel
theorem dX6_lays_60 : decode cX6_lays 60 = .ok (.bipush 10, 2) := by decide +kernel
theorem dX6_lays_62 : decode cX6_lays 62 = .ok (.idiv, 1) := by decide +kernel
theorem dX6_lays_63 : decode cX6_lays 63 = .ok (.istore 5, 2) := by decide +kernel
theorem dX6_lays_65 : decode cX6_lays 65 = .ok (.iload_n 3, 1) := by decide +kernel
theorem dX6_lays_66 : decode cX6_lays 66 = .ok (.ifCond .eq 31, 3) := by decide +kernel
theorem dX6_lays_69 : decode cX6_lays 69 = .ok (.aload_n 1, 1) := by decide +kernel
theorem dX6_lays_70 : decode cX6_lays 70 = .ok (.iload 6, 2) := by decide +kernel
theorem dX6_lays_72 : decode cX6_lays 72 = .ok (.iaload, 1) := by decide +kernel
theorem dX6_lays_73 : decode cX6_lays 73 = .ok (.iconst 1, 1) := by decide +kernel
theorem dX6_lays_74 : decode cX6_lays 74 = .ok (.iload_n 2, 1) := by decide +kernel
theorem dX6_lays_75 : decode cX6_lays 75 = .ok (.invokestatic 51, 3) := by decide +kernel
theorem dX6_lays_78 : decode cX6_lays 78 = .ok (.ifCond .eq 19, 3) := by decide +kernel
theorem dX6_lays_81 : decode cX6_lays 81 = .ok (.iload 4, 2) := by decide +kernel
theorem dX6_lays_83 : decode cX6_lays 83 = .ok (.aload_n 1, 1) := by decide +kernel
theorem dX6_lays_84 : decode cX6_lays 84 = .ok (.iload 6, 2) := by decide +kernel
theorem dX6_lays_86 : decode cX6_lays 86 = .ok (.iaload, 1) := by decide +kernel
theorem dX6_lays_87 : decode cX6_lays 87 = .ok (.ishr, 1) := by decide +kernel
theorem dX6_lays_88 : decode cX6_lays 88 = .ok (.iconst 1, 1) := by decide +kernel
theorem dX6_lays_89 : decode cX6_lays 89 = .ok (.iand, 1) := by decide +kernel
theorem dX6_lays_90 : decode cX6_lays 90 = .ok (.ifCond .ne 7, 3) := by decide +kernel
theorem dX6_lays_93 : decode cX6_lays 93 = .ok (.iconst 1, 1) := by decide +kernel
theorem dX6_lays_94 : decode cX6_lays 94 = .ok (.goto 4, 3) := by decide +kernel
theorem dX6_lays_97 : decode cX6_lays 97 = .ok (.iconst 0, 1) := by decide +kernel
theorem dX6_lays_98 : decode cX6_lays 98 = .ok (.istore_n 3, 1) := by decide +kernel
theorem dX6_lays_99 : decode cX6_lays 99 = .ok (.iload 4, 2) := by decide +kernel
theorem dX6_lays_101 : decode cX6_lays 101 = .ok (.iconst 1, 1) := by decide +kernel
theorem dX6_lays_102 : decode cX6_lays 102 = .ok (.aload_n 1, 1) := by decide +kernel
theorem dX6_lays_103 : decode cX6_lays 103 = .ok (.iload 6, 2) := by decide +kernel
theorem dX6_lays_105 : decode cX6_lays 105 = .ok (.iaload, 1) := by decide +kernel
theorem dX6_lays_106 : decode cX6_lays 106 = .ok (.ishl, 1) := by decide +kernel
theorem dX6_lays_107 : decode cX6_lays 107 = .ok (.ior, 1) := by decide +kernel
theorem dX6_lays_108 : decode cX6_lays 108 = .ok (.istore 4, 2) := by decide +kernel
theorem dX6_lays_110 : decode cX6_lays 110 = .ok (.iinc 6 (-1), 3) := by decide +kernel
theorem dX6_lays_113 : decode cX6_lays 113 = .ok (.goto (-69), 3) := by decide +kernel
theorem dX6_lays_116 : decode cX6_lays 116 = .ok (.iload_n 2, 1) := by decide +kernel
theorem dX6_lays_117 : decode cX6_lays 117 = .ok (.iconst 1, 1) := by decide +kernel
theorem dX6_lays_118 : decode cX6_lays 118 = .ok (.iadd, 1) := by decide +kernel
theorem dX6_lays_119 : decode cX6_lays 119 = .ok (.istore 6, 2) := by decide +kernel
theorem dX6_lays_121 : decode cX6_lays 121 = .ok (.iload 6, 2) := by decide +kernel
theorem dX6_lays_123 : decode cX6_lays 123 = .ok (.bipush 9, 2) := by decide +kernel
theorem dX6_lays_125 : decode cX6_lays 125 = .ok (.if_icmp .gt 15, 3) := by decide +kernel
theorem dX6_lays_128 : decode cX6_lays 128 = .ok (.aload_n 1, 1) := by decide +kernel
theorem dX6_lays_129 : decode cX6_lays 129 = .ok (.iload 6, 2) := by decide +kernel
theorem dX6_lays_131 : decode cX6_lays 131 = .ok (.iload 6, 2) := by decide +kernel
theorem dX6_lays_133 : decode cX6_lays 133 = .ok (.iastore, 1) := by decide +kernel
theorem dX6_lays_134 : decode cX6_lays 134 = .ok (.iinc 6 1, 3) := by decide +kernel
theorem dX6_lays_137 : decode cX6_lays 137 = .ok (.goto (-16), 3) := by decide +kernel
theorem dX6_lays_140 : decode cX6_lays 140 = .ok (.iload_n 3, 1) := by decide +kernel
theorem dX6_lays_141 : decode cX6_lays 141 = .ok (.ireturn, 1) := by decide +kernel
theorem dX6_plainOf_0 : decode cX6_plainOf 0 = .ok (.bipush 9, 2) := by decide +kernel
theorem dX6_plainOf_2 : decode cX6_plainOf 2 = .ok (.istore_n 1, 1) := by decide +kernel
theorem dX6_plainOf_3 : decode cX6_plainOf 3 = .ok (.iload_n 1, 1) := by decide +kernel
theorem dX6_plainOf_4 : decode cX6_plainOf 4 = .ok (.iconst 1, 1) := by decide +kernel
theorem dX6_plainOf_5 : decode cX6_plainOf 5 = .ok (.if_icmp .le 16, 3) := by decide +kernel
theorem dX6_plainOf_8 : decode cX6_plainOf 8 = .ok (.aload_n 0, 1) := by decide +kernel
theorem dX6_plainOf_9 : decode cX6_plainOf 9 = .ok (.iload_n 1, 1) := by decide +kernel
theorem dX6_plainOf_10 : decode cX6_plainOf 10 = .ok (.iaload, 1) := by decide +kernel
theorem dX6_plainOf_11 : decode cX6_plainOf 11 = .ok (.iload_n 1, 1) := by decide +kernel
theorem dX6_plainOf_12 : decode cX6_plainOf 12 = .ok (.if_icmp .ne 9, 3) := by decide +kernel
theorem dX6_plainOf_15 : decode cX6_plainOf 15 = .ok (.iinc 1 (-1), 3) := by decide +kernel
theorem dX6_plainOf_18 : decode cX6_plainOf 18 = .ok (.goto (-15), 3) := by decide +kernel
theorem dX6_plainOf_21 : decode cX6_plainOf 21 = .ok (.iconst 0, 1) := by decide +kernel
theorem dX6_plainOf_22 : decode cX6_plainOf 22 = .ok (.istore_n 2, 1) := by decide +kernel
theorem dX6_plainOf_23 : decode cX6_plainOf 23 = .ok (.iconst 1, 1) := by decide +kernel
theorem dX6_plainOf_24 : decode cX6_plainOf 24 = .ok (.istore_n 3, 1) := by decide +kernel
theorem dX6_plainOf_25 : decode cX6_plainOf 25 = .ok (.iload_n 3, 1) := by decide +kernel
theorem dX6_plainOf_26 : decode cX6_plainOf 26 = .ok (.iload_n 1, 1) := by decide +kernel
theorem dX6_plainOf_27 : decode cX6_plainOf 27 = .ok (.if_icmp .gt 18, 3) := by decide +kernel
theorem dX6_plainOf_30 : decode cX6_plainOf 30 = .ok (.bipush 10, 2) := by decide +kernel
theorem dX6_plainOf_32 : decode cX6_plainOf 32 = .ok (.iload_n 2, 1) := by decide +kernel
theorem dX6_plainOf_33 : decode cX6_plainOf 33 = .ok (.imul, 1) := by decide +kernel
theorem dX6_plainOf_34 : decode cX6_plainOf 34 = .ok (.aload_n 0, 1) := by decide +kernel
theorem dX6_plainOf_35 : decode cX6_plainOf 35 = .ok (.iload_n 3, 1) := by decide +kernel
theorem dX6_plainOf_36 : decode cX6_plainOf 36 = .ok (.iaload, 1) := by decide +kernel
theorem dX6_plainOf_37 : decode cX6_plainOf 37 = .ok (.iadd, 1) := by decide +kernel
theorem dX6_plainOf_38 : decode cX6_plainOf 38 = .ok (.istore_n 2, 1) := by decide +kernel
theorem dX6_plainOf_39 : decode cX6_plainOf 39 = .ok (.iinc 3 1, 3) := by decide +kernel
theorem dX6_plainOf_42 : decode cX6_plainOf 42 = .ok (.goto (-17), 3) := by decide +kernel
theorem dX6_plainOf_45 : decode cX6_plainOf 45 = .ok (.iload_n 2, 1) := by decide +kernel
theorem dX6_plainOf_46 : decode cX6_plainOf 46 = .ok (.ireturn, 1) := by decide +kernel
theorem dX6_codeAt_0 : decode cX6_codeAt 0 = .ok (.iconst 0, 1) := by decide +kernel
theorem dX6_codeAt_1 : decode cX6_codeAt 1 = .ok (.istore_n 2, 1) := by decide +kernel
theorem dX6_codeAt_2 : decode cX6_codeAt 2 = .ok (.iload_n 1, 1) := by decide +kernel
theorem dX6_codeAt_3 : decode cX6_codeAt 3 = .ok (.iconst 1, 1) := by decide +kernel
theorem dX6_codeAt_4 : decode cX6_codeAt 4 = .ok (.iadd, 1) := by decide +kernel
theorem dX6_codeAt_5 : decode cX6_codeAt 5 = .ok (.istore_n 3, 1) := by decide +kernel
theorem dX6_codeAt_6 : decode cX6_codeAt 6 = .ok (.iload_n 3, 1) := by decide +kernel
theorem dX6_codeAt_7 : decode cX6_codeAt 7 = .ok (.bipush 9, 2) := by decide +kernel
theorem dX6_codeAt_9 : decode cX6_codeAt 9 = .ok (.if_icmp .gt 26, 3) := by decide +kernel
theorem dX6_codeAt_12 : decode cX6_codeAt 12 = .ok (.iload_n 2, 1) := by decide +kernel
theorem dX6_codeAt_13 : decode cX6_codeAt 13 = .ok (.aload_n 0, 1) := by decide +kernel
theorem dX6_codeAt_14 : decode cX6_codeAt 14 = .ok (.iload_n 3, 1) := by decide +kernel
theorem dX6_codeAt_15 : decode cX6_codeAt 15 = .ok (.iaload, 1) := by decide +kernel
theorem dX6_codeAt_16 : decode cX6_codeAt 16 = .ok (.aload_n 0, 1) := by decide +kernel
theorem dX6_codeAt_17 : decode cX6_codeAt 17 = .ok (.iload_n 1, 1) := by decide +kernel
theorem dX6_codeAt_18 : decode cX6_codeAt 18 = .ok (.iaload, 1) := by decide +kernel
theorem dX6_codeAt_19 : decode cX6_codeAt 19 = .ok (.if_icmp .ge 7, 3) := by decide +kernel
theorem dX6_codeAt_22 : decode cX6_codeAt 22 = .ok (.iconst 1, 1) := by decide +kernel
theorem dX6_codeAt_23 : decode cX6_codeAt 23 = .ok (.goto 4, 3) := by decide +kernel
theorem dX6_codeAt_26 : decode cX6_codeAt 26 = .ok (.iconst 0, 1) := by decide +kernel
theorem dX6_codeAt_27 : decode cX6_codeAt 27 = .ok (.iadd, 1) := by decide +kernel
theorem dX6_codeAt_28 : decode cX6_codeAt 28 = .ok (.istore_n 2, 1) := by decide +kernel
theorem dX6_codeAt_29 : decode cX6_codeAt 29 = .ok (.iinc 3 1, 3) := by decide +kernel
theorem dX6_codeAt_32 : decode cX6_codeAt 32 = .ok (.goto (-26), 3) := by decide +kernel
theorem dX6_codeAt_35 : decode cX6_codeAt 35 = .ok (.iload_n 2, 1) := by decide +kernel
theorem dX6_codeAt_36 : decode cX6_codeAt 36 = .ok (.ireturn, 1) := by decide +kernel
set_option maxRecDepth 20000 in
theorem ggX6_lengthOf_X6_codeAt : GoodIn wsX6_lengthOf wsX6_codeAt := goodIn_r _ [4] (by decide +kernel) (by decide +kernel)
set_option maxRecDepth 20000 in
theorem gX6_lengthOf_X6_codeAt : GoodIn wsX6_lengthOf (va_wsS RX6 55 yX6_codeAt wsX6_codeAt) := goodIn_app (goodIn_of _ (by decide +kernel)) ggX6_lengthOf_X6_codeAt
theorem dX6_lengthOf_0 : decode cX6_lengthOf 0 = .ok (.iconst 0, 1) := by decide +kernel
theorem dX6_lengthOf_1 : decode cX6_lengthOf 1 = .ok (.istore_n 1, 1) := by decide +kernel
theorem dX6_lengthOf_2 : decode cX6_lengthOf 2 = .ok (.iconst 1, 1) := by decide +kernel
theorem dX6_lengthOf_3 : decode cX6_lengthOf 3 = .ok (.istore_n 2, 1) := by decide +kernel
theorem dX6_lengthOf_4 : decode cX6_lengthOf 4 = .ok (.iload_n 2, 1) := by decide +kernel
theorem dX6_lengthOf_5 : decode cX6_lengthOf 5 = .ok (.bipush 9, 2) := by decide +kernel
theorem dX6_lengthOf_7 : decode cX6_lengthOf 7 = .ok (.if_icmp .gt 17, 3) := by decide +kernel
theorem dX6_lengthOf_10 : decode cX6_lengthOf 10 = .ok (.iload_n 1, 1) := by decide +kernel
theorem dX6_lengthOf_11 : decode cX6_lengthOf 11 = .ok (.aload_n 0, 1) := by decide +kernel
theorem dX6_lengthOf_12 : decode cX6_lengthOf 12 = .ok (.iload_n 2, 1) := by decide +kernel
theorem dX6_lengthOf_13 : decode cX6_lengthOf 13 = .ok (.invokestatic 55, 3) := by decide +kernel
theorem dX6_lengthOf_16 : decode cX6_lengthOf 16 = .ok (.iadd, 1) := by decide +kernel
theorem dX6_lengthOf_17 : decode cX6_lengthOf 17 = .ok (.istore_n 1, 1) := by decide +kernel
theorem dX6_lengthOf_18 : decode cX6_lengthOf 18 = .ok (.iinc 2 1, 3) := by decide +kernel
theorem dX6_lengthOf_21 : decode cX6_lengthOf 21 = .ok (.goto (-17), 3) := by decide +kernel
theorem dX6_lengthOf_24 : decode cX6_lengthOf 24 = .ok (.iload_n 1, 1) := by decide +kernel
theorem dX6_lengthOf_25 : decode cX6_lengthOf 25 = .ok (.ireturn, 1) := by decide +kernel
theorem dX6_exchange_0 : decode cX6_exchange 0 = .ok (.aload_n 0, 1) := by decide +kernel
theorem dX6_exchange_1 : decode cX6_exchange 1 = .ok (.iload_n 1, 1) := by decide +kernel
theorem dX6_exchange_2 : decode cX6_exchange 2 = .ok (.iaload, 1) := by decide +kernel
theorem dX6_exchange_3 : decode cX6_exchange 3 = .ok (.istore_n 3, 1) := by decide +kernel
theorem dX6_exchange_4 : decode cX6_exchange 4 = .ok (.aload_n 0, 1) := by decide +kernel
theorem dX6_exchange_5 : decode cX6_exchange 5 = .ok (.iload_n 1, 1) := by decide +kernel
theorem dX6_exchange_6 : decode cX6_exchange 6 = .ok (.aload_n 0, 1) := by decide +kernel
theorem dX6_exchange_7 : decode cX6_exchange 7 = .ok (.iload_n 2, 1) := by decide +kernel
theorem dX6_exchange_8 : decode cX6_exchange 8 = .ok (.iaload, 1) := by decide +kernel
theorem dX6_exchange_9 : decode cX6_exchange 9 = .ok (.iastore, 1) := by decide +kernel
theorem dX6_exchange_10 : decode cX6_exchange 10 = .ok (.aload_n 0, 1) := by decide +kernel
theorem dX6_exchange_11 : decode cX6_exchange 11 = .ok (.iload_n 2, 1) := by decide +kernel
theorem dX6_exchange_12 : decode cX6_exchange 12 = .ok (.iload_n 3, 1) := by decide +kernel
theorem dX6_exchange_13 : decode cX6_exchange 13 = .ok (.iastore, 1) := by decide +kernel
theorem dX6_exchange_14 : decode cX6_exchange 14 = .ok (.return_, 1) := by decide +kernel
theorem dX6_descentsOf_0 : decode cX6_descentsOf 0 = .ok (.iconst 0, 1) := by decide +kernel
theorem dX6_descentsOf_1 : decode cX6_descentsOf 1 = .ok (.istore_n 1, 1) := by decide +kernel
theorem dX6_descentsOf_2 : decode cX6_descentsOf 2 = .ok (.iconst 1, 1) := by decide +kernel
theorem dX6_descentsOf_3 : decode cX6_descentsOf 3 = .ok (.istore_n 2, 1) := by decide +kernel
theorem dX6_descentsOf_4 : decode cX6_descentsOf 4 = .ok (.iload_n 2, 1) := by decide +kernel
theorem dX6_descentsOf_5 : decode cX6_descentsOf 5 = .ok (.bipush 9, 2) := by decide +kernel
theorem dX6_descentsOf_7 : decode cX6_descentsOf 7 = .ok (.if_icmp .ge 30, 3) := by decide +kernel
theorem dX6_descentsOf_10 : decode cX6_descentsOf 10 = .ok (.iload_n 1, 1) := by decide +kernel
theorem dX6_descentsOf_11 : decode cX6_descentsOf 11 = .ok (.aload_n 0, 1) := by decide +kernel
theorem dX6_descentsOf_12 : decode cX6_descentsOf 12 = .ok (.iload_n 2, 1) := by decide +kernel
theorem dX6_descentsOf_13 : decode cX6_descentsOf 13 = .ok (.iaload, 1) := by decide +kernel
theorem dX6_descentsOf_14 : decode cX6_descentsOf 14 = .ok (.aload_n 0, 1) := by decide +kernel
theorem dX6_descentsOf_15 : decode cX6_descentsOf 15 = .ok (.iload_n 2, 1) := by decide +kernel
theorem dX6_descentsOf_16 : decode cX6_descentsOf 16 = .ok (.iconst 1, 1) := by decide +kernel
theorem dX6_descentsOf_17 : decode cX6_descentsOf 17 = .ok (.iadd, 1) := by decide +kernel
theorem dX6_descentsOf_18 : decode cX6_descentsOf 18 = .ok (.iaload, 1) := by decide +kernel
theorem dX6_descentsOf_19 : decode cX6_descentsOf 19 = .ok (.if_icmp .le 9, 3) := by decide +kernel
theorem dX6_descentsOf_22 : decode cX6_descentsOf 22 = .ok (.iconst 1, 1) := by decide +kernel
theorem dX6_descentsOf_23 : decode cX6_descentsOf 23 = .ok (.iload_n 2, 1) := by decide +kernel
theorem dX6_descentsOf_24 : decode cX6_descentsOf 24 = .ok (.ishl, 1) := by decide +kernel
theorem dX6_descentsOf_25 : decode cX6_descentsOf 25 = .ok (.goto 4, 3) := by decide +kernel
theorem dX6_descentsOf_28 : decode cX6_descentsOf 28 = .ok (.iconst 0, 1) := by decide +kernel
theorem dX6_descentsOf_29 : decode cX6_descentsOf 29 = .ok (.ior, 1) := by decide +kernel
theorem dX6_descentsOf_30 : decode cX6_descentsOf 30 = .ok (.istore_n 1, 1) := by decide +kernel
theorem dX6_descentsOf_31 : decode cX6_descentsOf 31 = .ok (.iinc 2 1, 3) := by decide +kernel
theorem dX6_descentsOf_34 : decode cX6_descentsOf 34 = .ok (.goto (-30), 3) := by decide +kernel
theorem dX6_descentsOf_37 : decode cX6_descentsOf 37 = .ok (.iload_n 1, 1) := by decide +kernel
theorem dX6_descentsOf_38 : decode cX6_descentsOf 38 = .ok (.ireturn, 1) := by decide +kernel
set_option maxRecDepth 20000 in
theorem ggX6_isFit_X6_descentsOf : GoodIn wsX6_isFit wsX6_descentsOf := goodIn_r _ [4] (by decide +kernel) (by decide +kernel)
set_option maxRecDepth 20000 in
theorem gX6_isFit_X6_descentsOf : GoodIn wsX6_isFit (va_wsS RX6 59 yX6_descentsOf wsX6_descentsOf) := goodIn_app (goodIn_of _ (by decide +kernel)) ggX6_isFit_X6_descentsOf
theorem dX6_isFit_0 : decode cX6_isFit 0 = .ok (.aload_n 0, 1) := by decide +kernel
theorem dX6_isFit_1 : decode cX6_isFit 1 = .ok (.invokestatic 59, 3) := by decide +kernel
theorem dX6_isFit_4 : decode cX6_isFit 4 = .ok (.bipush 32, 2) := by decide +kernel
theorem dX6_isFit_6 : decode cX6_isFit 6 = .ok (.if_icmp .ge 7, 3) := by decide +kernel
theorem dX6_isFit_9 : decode cX6_isFit 9 = .ok (.iconst 1, 1) := by decide +kernel
theorem dX6_isFit_10 : decode cX6_isFit 10 = .ok (.goto 4, 3) := by decide +kernel
theorem dX6_isFit_13 : decode cX6_isFit 13 = .ok (.iconst 0, 1) := by decide +kernel
theorem dX6_isFit_14 : decode cX6_isFit 14 = .ok (.ireturn, 1) := by decide +kernel
theorem dX6_isSmall_0 : decode cX6_isSmall 0 = .ok (.iconst 1, 1) := by decide +kernel
theorem dX6_isSmall_1 : decode cX6_isSmall 1 = .ok (.istore_n 1, 1) := by decide +kernel
theorem dX6_isSmall_2 : decode cX6_isSmall 2 = .ok (.bipush 6, 2) := by decide +kernel
theorem dX6_isSmall_4 : decode cX6_isSmall 4 = .ok (.istore_n 2, 1) := by decide +kernel
theorem dX6_isSmall_5 : decode cX6_isSmall 5 = .ok (.iload_n 2, 1) := by decide +kernel
theorem dX6_isSmall_6 : decode cX6_isSmall 6 = .ok (.bipush 9, 2) := by decide +kernel
theorem dX6_isSmall_8 : decode cX6_isSmall 8 = .ok (.if_icmp .gt 26, 3) := by decide +kernel
theorem dX6_isSmall_11 : decode cX6_isSmall 11 = .ok (.iload_n 1, 1) := by decide +kernel
theorem dX6_isSmall_12 : decode cX6_isSmall 12 = .ok (.ifCond .eq 14, 3) := by decide +kernel
theorem dX6_isSmall_15 : decode cX6_isSmall 15 = .ok (.aload_n 0, 1) := by decide +kernel
theorem dX6_isSmall_16 : decode cX6_isSmall 16 = .ok (.iload_n 2, 1) := by decide +kernel
theorem dX6_isSmall_17 : decode cX6_isSmall 17 = .ok (.iaload, 1) := by decide +kernel
theorem dX6_isSmall_18 : decode cX6_isSmall 18 = .ok (.iload_n 2, 1) := by decide +kernel
theorem dX6_isSmall_19 : decode cX6_isSmall 19 = .ok (.if_icmp .ne 7, 3) := by decide +kernel
theorem dX6_isSmall_22 : decode cX6_isSmall 22 = .ok (.iconst 1, 1) := by decide +kernel
theorem dX6_isSmall_23 : decode cX6_isSmall 23 = .ok (.goto 4, 3) := by decide +kernel
theorem dX6_isSmall_26 : decode cX6_isSmall 26 = .ok (.iconst 0, 1) := by decide +kernel
theorem dX6_isSmall_27 : decode cX6_isSmall 27 = .ok (.istore_n 1, 1) := by decide +kernel
theorem dX6_isSmall_28 : decode cX6_isSmall 28 = .ok (.iinc 2 1, 3) := by decide +kernel
theorem dX6_isSmall_31 : decode cX6_isSmall 31 = .ok (.goto (-26), 3) := by decide +kernel
theorem dX6_isSmall_34 : decode cX6_isSmall 34 = .ok (.iload_n 1, 1) := by decide +kernel
theorem dX6_isSmall_35 : decode cX6_isSmall 35 = .ok (.ireturn, 1) := by decide +kernel
set_option maxRecDepth 20000 in
theorem ggX6_plain_X6_lays : GoodIn wsX6_plain wsX6_lays := goodIn_r _ [5, 6, 7, 4, 8] (by decide +kernel) (by decide +kernel)
set_option maxRecDepth 20000 in
theorem gX6_plain_X6_lays : GoodIn wsX6_plain (va_wsS RX6 63 yX6_lays wsX6_lays) := goodIn_app (goodIn_of _ (by decide +kernel)) ggX6_plain_X6_lays
set_option maxRecDepth 20000 in
theorem ggX6_plain_X6_plainOf : GoodIn wsX6_plain wsX6_plainOf := goodIn_r _ [11] (by decide +kernel) (by decide +kernel)
set_option maxRecDepth 20000 in
theorem gX6_plain_X6_plainOf : GoodIn wsX6_plain (va_wsS RX6 67 yX6_plainOf wsX6_plainOf) := goodIn_app (goodIn_of _ (by decide +kernel)) ggX6_plain_X6_plainOf
theorem dX6_plain_0 : decode cX6_plain 0 = .ok (.iload_n 1, 1) := by decide +kernel
theorem dX6_plain_1 : decode cX6_plain 1 = .ok (.aload_n 0, 1) := by decide +kernel
theorem dX6_plain_2 : decode cX6_plain 2 = .ok (.getfield 7, 3) := by decide +kernel
theorem dX6_plain_5 : decode cX6_plain 5 = .ok (.invokestatic 63, 3) := by decide +kernel
theorem dX6_plain_8 : decode cX6_plain 8 = .ok (.ifCond .eq 13, 3) := by decide +kernel
theorem dX6_plain_11 : decode cX6_plain 11 = .ok (.aload_n 0, 1) := by decide +kernel
theorem dX6_plain_12 : decode cX6_plain 12 = .ok (.getfield 7, 3) := by decide +kernel
theorem dX6_plain_15 : decode cX6_plain 15 = .ok (.invokestatic 67, 3) := by decide +kernel
theorem dX6_plain_18 : decode cX6_plain 18 = .ok (.goto 5, 3) := by decide +kernel
theorem dX6_plain_21 : decode cX6_plain 21 = .ok (.bipush (-2), 2) := by decide +kernel
theorem dX6_plain_23 : decode cX6_plain 23 = .ok (.ireturn, 1) := by decide +kernel
set_option maxRecDepth 20000 in
theorem ggX6_length_X6_lays : GoodIn wsX6_length wsX6_lays := goodIn_r _ [5, 6, 7, 4, 8] (by decide +kernel) (by decide +kernel)
set_option maxRecDepth 20000 in
theorem gX6_length_X6_lays : GoodIn wsX6_length (va_wsS RX6 63 yX6_lays wsX6_lays) := goodIn_app (goodIn_of _ (by decide +kernel)) ggX6_length_X6_lays
set_option maxRecDepth 20000 in
theorem ggX6_length_X6_lengthOf : GoodIn wsX6_length wsX6_lengthOf := goodIn_r _ [11, 12, 13, 4, 14] (by decide +kernel) (by decide +kernel)
set_option maxRecDepth 20000 in
theorem gX6_length_X6_lengthOf : GoodIn wsX6_length (va_wsS RX6 70 yX6_lengthOf wsX6_lengthOf) := goodIn_app (goodIn_of _ (by decide +kernel)) ggX6_length_X6_lengthOf
theorem dX6_length_0 : decode cX6_length 0 = .ok (.iload_n 1, 1) := by decide +kernel
theorem dX6_length_1 : decode cX6_length 1 = .ok (.aload_n 0, 1) := by decide +kernel
theorem dX6_length_2 : decode cX6_length 2 = .ok (.getfield 7, 3) := by decide +kernel
theorem dX6_length_5 : decode cX6_length 5 = .ok (.invokestatic 63, 3) := by decide +kernel
theorem dX6_length_8 : decode cX6_length 8 = .ok (.ifCond .eq 13, 3) := by decide +kernel
theorem dX6_length_11 : decode cX6_length 11 = .ok (.aload_n 0, 1) := by decide +kernel
theorem dX6_length_12 : decode cX6_length 12 = .ok (.getfield 7, 3) := by decide +kernel
theorem dX6_length_15 : decode cX6_length 15 = .ok (.invokestatic 70, 3) := by decide +kernel
theorem dX6_length_18 : decode cX6_length 18 = .ok (.goto 5, 3) := by decide +kernel
theorem dX6_length_21 : decode cX6_length 21 = .ok (.bipush (-2), 2) := by decide +kernel
theorem dX6_length_23 : decode cX6_length 23 = .ok (.ireturn, 1) := by decide +kernel
set_option maxRecDepth 20000 in
theorem ggX6_code_X6_lays : GoodIn wsX6_code wsX6_lays := goodIn_r _ [5, 6, 7, 4, 8] (by decide +kernel) (by decide +kernel)
set_option maxRecDepth 20000 in
theorem gX6_code_X6_lays : GoodIn wsX6_code (va_wsS RX6 63 yX6_lays wsX6_lays) := goodIn_app (goodIn_of _ (by decide +kernel)) ggX6_code_X6_lays
set_option maxRecDepth 20000 in
theorem ggX6_code_X6_within : GoodIn wsX6_code wsX6_within := goodIn_r _ [8] (by decide +kernel) (by decide +kernel)
set_option maxRecDepth 20000 in
theorem gX6_code_X6_within : GoodIn wsX6_code (va_wsS RX6 51 yX6_within wsX6_within) := goodIn_app (goodIn_of _ (by decide +kernel)) ggX6_code_X6_within
set_option maxRecDepth 20000 in
theorem ggX6_code_X6_codeAt : GoodIn wsX6_code wsX6_codeAt := goodIn_r _ [11] (by decide +kernel) (by decide +kernel)
set_option maxRecDepth 20000 in
theorem gX6_code_X6_codeAt : GoodIn wsX6_code (va_wsS RX6 55 yX6_codeAt wsX6_codeAt) := goodIn_app (goodIn_of _ (by decide +kernel)) ggX6_code_X6_codeAt
theorem dX6_code_0 : decode cX6_code 0 = .ok (.iload_n 1, 1) := by decide +kernel
theorem dX6_code_1 : decode cX6_code 1 = .ok (.aload_n 0, 1) := by decide +kernel
theorem dX6_code_2 : decode cX6_code 2 = .ok (.getfield 7, 3) := by decide +kernel
theorem dX6_code_5 : decode cX6_code 5 = .ok (.invokestatic 63, 3) := by decide +kernel
theorem dX6_code_8 : decode cX6_code 8 = .ok (.ifCond .eq 24, 3) := by decide +kernel
theorem dX6_code_11 : decode cX6_code 11 = .ok (.iload_n 2, 1) := by decide +kernel
theorem dX6_code_12 : decode cX6_code 12 = .ok (.iconst 1, 1) := by decide +kernel
theorem dX6_code_13 : decode cX6_code 13 = .ok (.bipush 9, 2) := by decide +kernel
theorem dX6_code_15 : decode cX6_code 15 = .ok (.invokestatic 51, 3) := by decide +kernel
theorem dX6_code_18 : decode cX6_code 18 = .ok (.ifCond .eq 14, 3) := by decide +kernel
theorem dX6_code_21 : decode cX6_code 21 = .ok (.aload_n 0, 1) := by decide +kernel
theorem dX6_code_22 : decode cX6_code 22 = .ok (.getfield 7, 3) := by decide +kernel
theorem dX6_code_25 : decode cX6_code 25 = .ok (.iload_n 2, 1) := by decide +kernel
theorem dX6_code_26 : decode cX6_code 26 = .ok (.invokestatic 55, 3) := by decide +kernel
theorem dX6_code_29 : decode cX6_code 29 = .ok (.goto 5, 3) := by decide +kernel
theorem dX6_code_32 : decode cX6_code 32 = .ok (.bipush (-2), 2) := by decide +kernel
theorem dX6_code_34 : decode cX6_code 34 = .ok (.ireturn, 1) := by decide +kernel
set_option maxRecDepth 20000 in
theorem ggX6_descents_X6_lays : GoodIn wsX6_descents wsX6_lays := goodIn_r _ [5, 6, 7, 4, 8] (by decide +kernel) (by decide +kernel)
set_option maxRecDepth 20000 in
theorem gX6_descents_X6_lays : GoodIn wsX6_descents (va_wsS RX6 63 yX6_lays wsX6_lays) := goodIn_app (goodIn_of _ (by decide +kernel)) ggX6_descents_X6_lays
set_option maxRecDepth 20000 in
theorem ggX6_descents_X6_descentsOf : GoodIn wsX6_descents wsX6_descentsOf := goodIn_r _ [11] (by decide +kernel) (by decide +kernel)
set_option maxRecDepth 20000 in
theorem gX6_descents_X6_descentsOf : GoodIn wsX6_descents (va_wsS RX6 59 yX6_descentsOf wsX6_descentsOf) := goodIn_app (goodIn_of _ (by decide +kernel)) ggX6_descents_X6_descentsOf
theorem dX6_descents_0 : decode cX6_descents 0 = .ok (.iload_n 1, 1) := by decide +kernel
theorem dX6_descents_1 : decode cX6_descents 1 = .ok (.aload_n 0, 1) := by decide +kernel
theorem dX6_descents_2 : decode cX6_descents 2 = .ok (.getfield 7, 3) := by decide +kernel
theorem dX6_descents_5 : decode cX6_descents 5 = .ok (.invokestatic 63, 3) := by decide +kernel
theorem dX6_descents_8 : decode cX6_descents 8 = .ok (.ifCond .eq 13, 3) := by decide +kernel
theorem dX6_descents_11 : decode cX6_descents 11 = .ok (.aload_n 0, 1) := by decide +kernel
theorem dX6_descents_12 : decode cX6_descents 12 = .ok (.getfield 7, 3) := by decide +kernel
theorem dX6_descents_15 : decode cX6_descents 15 = .ok (.invokestatic 59, 3) := by decide +kernel
theorem dX6_descents_18 : decode cX6_descents 18 = .ok (.goto 5, 3) := by decide +kernel
theorem dX6_descents_21 : decode cX6_descents 21 = .ok (.bipush (-2), 2) := by decide +kernel
theorem dX6_descents_23 : decode cX6_descents 23 = .ok (.ireturn, 1) := by decide +kernel
set_option maxRecDepth 20000 in
theorem ggX6_inverse_X6_lays : GoodIn wsX6_inverse wsX6_lays := goodIn_r _ [6, 7, 8, 5, 9] (by decide +kernel) (by decide +kernel)
set_option maxRecDepth 20000 in
theorem gX6_inverse_X6_lays : GoodIn wsX6_inverse (va_wsS RX6 63 yX6_lays wsX6_lays) := goodIn_app (goodIn_of _ (by decide +kernel)) ggX6_inverse_X6_lays
set_option maxRecDepth 20000 in
theorem ggX6_inverse_X6_plainOf : GoodIn wsX6_inverse wsX6_plainOf := goodIn_r _ [12] (by decide +kernel) (by decide +kernel)
set_option maxRecDepth 20000 in
theorem gX6_inverse_X6_plainOf : GoodIn wsX6_inverse (va_wsS RX6 67 yX6_plainOf wsX6_plainOf) := goodIn_app (goodIn_of _ (by decide +kernel)) ggX6_inverse_X6_plainOf
theorem dX6_inverse_0 : decode cX6_inverse 0 = .ok (.iload_n 1, 1) := by decide +kernel
theorem dX6_inverse_1 : decode cX6_inverse 1 = .ok (.aload_n 0, 1) := by decide +kernel
theorem dX6_inverse_2 : decode cX6_inverse 2 = .ok (.getfield 7, 3) := by decide +kernel
theorem dX6_inverse_5 : decode cX6_inverse 5 = .ok (.invokestatic 63, 3) := by decide +kernel
theorem dX6_inverse_8 : decode cX6_inverse 8 = .ok (.ifCond .ne 6, 3) := by decide +kernel
theorem dX6_inverse_11 : decode cX6_inverse 11 = .ok (.bipush (-2), 2) := by decide +kernel
theorem dX6_inverse_13 : decode cX6_inverse 13 = .ok (.ireturn, 1) := by decide +kernel
theorem dX6_inverse_14 : decode cX6_inverse 14 = .ok (.iconst 1, 1) := by decide +kernel
theorem dX6_inverse_15 : decode cX6_inverse 15 = .ok (.istore_n 2, 1) := by decide +kernel
theorem dX6_inverse_16 : decode cX6_inverse 16 = .ok (.iload_n 2, 1) := by decide +kernel
theorem dX6_inverse_17 : decode cX6_inverse 17 = .ok (.bipush 9, 2) := by decide +kernel
theorem dX6_inverse_19 : decode cX6_inverse 19 = .ok (.if_icmp .gt 21, 3) := by decide +kernel
theorem dX6_inverse_22 : decode cX6_inverse 22 = .ok (.aload_n 0, 1) := by decide +kernel
theorem dX6_inverse_23 : decode cX6_inverse 23 = .ok (.getfield 13, 3) := by decide +kernel
theorem dX6_inverse_26 : decode cX6_inverse 26 = .ok (.aload_n 0, 1) := by decide +kernel
theorem dX6_inverse_27 : decode cX6_inverse 27 = .ok (.getfield 7, 3) := by decide +kernel
theorem dX6_inverse_30 : decode cX6_inverse 30 = .ok (.iload_n 2, 1) := by decide +kernel
theorem dX6_inverse_31 : decode cX6_inverse 31 = .ok (.iaload, 1) := by decide +kernel
theorem dX6_inverse_32 : decode cX6_inverse 32 = .ok (.iload_n 2, 1) := by decide +kernel
theorem dX6_inverse_33 : decode cX6_inverse 33 = .ok (.iastore, 1) := by decide +kernel
theorem dX6_inverse_34 : decode cX6_inverse 34 = .ok (.iinc 2 1, 3) := by decide +kernel
theorem dX6_inverse_37 : decode cX6_inverse 37 = .ok (.goto (-21), 3) := by decide +kernel
theorem dX6_inverse_40 : decode cX6_inverse 40 = .ok (.aload_n 0, 1) := by decide +kernel
theorem dX6_inverse_41 : decode cX6_inverse 41 = .ok (.getfield 13, 3) := by decide +kernel
theorem dX6_inverse_44 : decode cX6_inverse 44 = .ok (.invokestatic 67, 3) := by decide +kernel
theorem dX6_inverse_47 : decode cX6_inverse 47 = .ok (.ireturn, 1) := by decide +kernel
set_option maxRecDepth 20000 in
theorem ggX6_after_X6_lays : GoodIn wsX6_after wsX6_lays := goodIn_r _ [7, 8, 9, 6, 10] (by decide +kernel) (by decide +kernel)
set_option maxRecDepth 20000 in
theorem gX6_after_X6_lays : GoodIn wsX6_after (va_wsS RX6 63 yX6_lays wsX6_lays) := goodIn_app (goodIn_of _ (by decide +kernel)) ggX6_after_X6_lays
set_option maxRecDepth 20000 in
theorem ggX6_after_X6_plainOf : GoodIn wsX6_after wsX6_plainOf := goodIn_r _ [13] (by decide +kernel) (by decide +kernel)
set_option maxRecDepth 20000 in
theorem gX6_after_X6_plainOf : GoodIn wsX6_after (va_wsS RX6 67 yX6_plainOf wsX6_plainOf) := goodIn_app (goodIn_of _ (by decide +kernel)) ggX6_after_X6_plainOf
theorem dX6_after_0 : decode cX6_after 0 = .ok (.iload_n 1, 1) := by decide +kernel
theorem dX6_after_1 : decode cX6_after 1 = .ok (.aload_n 0, 1) := by decide +kernel
theorem dX6_after_2 : decode cX6_after 2 = .ok (.getfield 7, 3) := by decide +kernel
theorem dX6_after_5 : decode cX6_after 5 = .ok (.invokestatic 63, 3) := by decide +kernel
theorem dX6_after_8 : decode cX6_after 8 = .ok (.ifCond .eq 14, 3) := by decide +kernel
theorem dX6_after_11 : decode cX6_after 11 = .ok (.iload_n 2, 1) := by decide +kernel
theorem dX6_after_12 : decode cX6_after 12 = .ok (.aload_n 0, 1) := by decide +kernel
theorem dX6_after_13 : decode cX6_after 13 = .ok (.getfield 13, 3) := by decide +kernel
theorem dX6_after_16 : decode cX6_after 16 = .ok (.invokestatic 63, 3) := by decide +kernel
theorem dX6_after_19 : decode cX6_after 19 = .ok (.ifCond .ne 6, 3) := by decide +kernel
theorem dX6_after_22 : decode cX6_after 22 = .ok (.bipush (-2), 2) := by decide +kernel
theorem dX6_after_24 : decode cX6_after 24 = .ok (.ireturn, 1) := by decide +kernel
theorem dX6_after_25 : decode cX6_after 25 = .ok (.iconst 1, 1) := by decide +kernel
theorem dX6_after_26 : decode cX6_after 26 = .ok (.istore_n 3, 1) := by decide +kernel
theorem dX6_after_27 : decode cX6_after 27 = .ok (.iload_n 3, 1) := by decide +kernel
theorem dX6_after_28 : decode cX6_after 28 = .ok (.bipush 9, 2) := by decide +kernel
theorem dX6_after_30 : decode cX6_after 30 = .ok (.if_icmp .gt 26, 3) := by decide +kernel
theorem dX6_after_33 : decode cX6_after 33 = .ok (.aload_n 0, 1) := by decide +kernel
theorem dX6_after_34 : decode cX6_after 34 = .ok (.getfield 16, 3) := by decide +kernel
theorem dX6_after_37 : decode cX6_after 37 = .ok (.iload_n 3, 1) := by decide +kernel
theorem dX6_after_38 : decode cX6_after 38 = .ok (.aload_n 0, 1) := by decide +kernel
theorem dX6_after_39 : decode cX6_after 39 = .ok (.getfield 7, 3) := by decide +kernel
theorem dX6_after_42 : decode cX6_after 42 = .ok (.aload_n 0, 1) := by decide +kernel
theorem dX6_after_43 : decode cX6_after 43 = .ok (.getfield 13, 3) := by decide +kernel
theorem dX6_after_46 : decode cX6_after 46 = .ok (.iload_n 3, 1) := by decide +kernel
theorem dX6_after_47 : decode cX6_after 47 = .ok (.iaload, 1) := by decide +kernel
theorem dX6_after_48 : decode cX6_after 48 = .ok (.iaload, 1) := by decide +kernel
theorem dX6_after_49 : decode cX6_after 49 = .ok (.iastore, 1) := by decide +kernel
theorem dX6_after_50 : decode cX6_after 50 = .ok (.iinc 3 1, 3) := by decide +kernel
theorem dX6_after_53 : decode cX6_after 53 = .ok (.goto (-26), 3) := by decide +kernel
theorem dX6_after_56 : decode cX6_after 56 = .ok (.aload_n 0, 1) := by decide +kernel
theorem dX6_after_57 : decode cX6_after 57 = .ok (.getfield 16, 3) := by decide +kernel
theorem dX6_after_60 : decode cX6_after 60 = .ok (.invokestatic 67, 3) := by decide +kernel
theorem dX6_after_63 : decode cX6_after 63 = .ok (.ireturn, 1) := by decide +kernel
theorem dX6_laysCode_0 : decode cX6_laysCode 0 = .ok (.iconst 0, 1) := by decide +kernel
theorem dX6_laysCode_1 : decode cX6_laysCode 1 = .ok (.istore 6, 2) := by decide +kernel
theorem dX6_laysCode_3 : decode cX6_laysCode 3 = .ok (.iconst 1, 1) := by decide +kernel
theorem dX6_laysCode_4 : decode cX6_laysCode 4 = .ok (.istore 7, 2) := by decide +kernel
theorem dX6_laysCode_6 : decode cX6_laysCode 6 = .ok (.iload 7, 2) := by decide +kernel
theorem dX6_laysCode_8 : decode cX6_laysCode 8 = .ok (.bipush 9, 2) := by decide +kernel
theorem dX6_laysCode_10 : decode cX6_laysCode 10 = .ok (.if_icmp .gt 115, 3) := by decide +kernel
theorem dX6_laysCode_13 : decode cX6_laysCode 13 = .ok (.iload 7, 2) := by decide +kernel
theorem dX6_laysCode_15 : decode cX6_laysCode 15 = .ok (.iconst 1, 1) := by decide +kernel
theorem dX6_laysCode_16 : decode cX6_laysCode 16 = .ok (.if_icmp .ne 7, 3) := by decide +kernel
theorem dX6_laysCode_19 : decode cX6_laysCode 19 = .ok (.iload_n 1, 1) := by decide +kernel
theorem dX6_laysCode_20 : decode cX6_laysCode 20 = .ok (.goto 35, 3) := by decide +kernel
theorem dX6_laysCode_23 : decode cX6_laysCode 23 = .ok (.iload 7, 2) := by decide +kernel
theorem dX6_laysCode_25 : decode cX6_laysCode 25 = .ok (.iconst 2, 1) := by decide +kernel
theorem dX6_laysCode_26 : decode cX6_laysCode 26 = .ok (.if_icmp .ne 7, 3) := by decide +kernel
theorem dX6_laysCode_29 : decode cX6_laysCode 29 = .ok (.iload_n 2, 1) := by decide +kernel
theorem dX6_laysCode_30 : decode cX6_laysCode 30 = .ok (.goto 25, 3) := by decide +kernel
theorem dX6_laysCode_33 : decode cX6_laysCode 33 = .ok (.iload 7, 2) := by decide +kernel
theorem dX6_laysCode_35 : decode cX6_laysCode 35 = .ok (.iconst 3, 1) := by decide +kernel
theorem dX6_laysCode_36 : decode cX6_laysCode 36 = .ok (.if_icmp .ne 7, 3) := by decide +kernel
theorem dX6_laysCode_39 : decode cX6_laysCode 39 = .ok (.iload_n 3, 1) := by decide +kernel
theorem dX6_laysCode_40 : decode cX6_laysCode 40 = .ok (.goto 15, 3) := by decide +kernel
theorem dX6_laysCode_43 : decode cX6_laysCode 43 = .ok (.iload 7, 2) := by decide +kernel
theorem dX6_laysCode_45 : decode cX6_laysCode 45 = .ok (.iconst 4, 1) := by decide +kernel
theorem dX6_laysCode_46 : decode cX6_laysCode 46 = .ok (.if_icmp .ne 8, 3) := by decide +kernel
theorem dX6_laysCode_49 : decode cX6_laysCode 49 = .ok (.iload 4, 2) := by decide +kernel
theorem dX6_laysCode_51 : decode cX6_laysCode 51 = .ok (.goto 4, 3) := by decide +kernel
theorem dX6_laysCode_54 : decode cX6_laysCode 54 = .ok (.iconst 0, 1) := by decide +kernel
theorem dX6_laysCode_55 : decode cX6_laysCode 55 = .ok (.istore 8, 2) := by decide +kernel
theorem dX6_laysCode_57 : decode cX6_laysCode 57 = .ok (.iconst 1, 1) := by decide +kernel
theorem dX6_laysCode_58 : decode cX6_laysCode 58 = .ok (.istore 9, 2) := by decide +kernel
theorem dX6_laysCode_60 : decode cX6_laysCode 60 = .ok (.iload 6, 2) := by decide +kernel
theorem dX6_laysCode_62 : decode cX6_laysCode 62 = .ok (.iload 9, 2) := by decide +kernel
theorem dX6_laysCode_64 : decode cX6_laysCode 64 = .ok (.ishr, 1) := by decide +kernel
theorem dX6_laysCode_65 : decode cX6_laysCode 65 = .ok (.iconst 1, 1) := by decide +kernel
theorem dX6_laysCode_66 : decode cX6_laysCode 66 = .ok (.iand, 1) := by decide +kernel
theorem dX6_laysCode_67 : decode cX6_laysCode 67 = .ok (.iconst 1, 1) := by decide +kernel
theorem dX6_laysCode_68 : decode cX6_laysCode 68 = .ok (.if_icmp .eq 8, 3) := by decide +kernel
theorem dX6_laysCode_71 : decode cX6_laysCode 71 = .ok (.iload 8, 2) := by decide +kernel
theorem dX6_laysCode_73 : decode cX6_laysCode 73 = .ok (.ifCond .le 30, 3) := by decide +kernel
theorem dX6_laysCode_76 : decode cX6_laysCode 76 = .ok (.iload 8, 2) := by decide +kernel
theorem dX6_laysCode_78 : decode cX6_laysCode 78 = .ok (.iload 6, 2) := by decide +kernel
theorem dX6_laysCode_80 : decode cX6_laysCode 80 = .ok (.iload 9, 2) := by decide +kernel
theorem dX6_laysCode_82 : decode cX6_laysCode 82 = .ok (.ishr, 1) := by decide +kernel
theorem dX6_laysCode_83 : decode cX6_laysCode 83 = .ok (.iconst 1, 1) := by decide +kernel
theorem dX6_laysCode_84 : decode cX6_laysCode 84 = .ok (.iand, 1) := by decide +kernel
theorem dX6_laysCode_85 : decode cX6_laysCode 85 = .ok (.iconst 1, 1) := by decide +kernel
theorem dX6_laysCode_86 : decode cX6_laysCode 86 = .ok (.if_icmp .ne 7, 3) := by decide +kernel
theorem dX6_laysCode_89 : decode cX6_laysCode 89 = .ok (.iconst 0, 1) := by decide +kernel
theorem dX6_laysCode_90 : decode cX6_laysCode 90 = .ok (.goto 4, 3) := by decide +kernel
theorem dX6_laysCode_93 : decode cX6_laysCode 93 = .ok (.iconst 1, 1) := by decide +kernel
theorem dX6_laysCode_94 : decode cX6_laysCode 94 = .ok (.isub, 1) := by decide +kernel
theorem dX6_laysCode_95 : decode cX6_laysCode 95 = .ok (.istore 8, 2) := by decide +kernel
theorem dX6_laysCode_97 : decode cX6_laysCode 97 = .ok (.iinc 9 1, 3) := by decide +kernel
theorem dX6_laysCode_100 : decode cX6_laysCode 100 = .ok (.goto (-40), 3) := by decide +kernel
theorem dX6_laysCode_103 : decode cX6_laysCode 103 = .ok (.aload 5, 2) := by decide +kernel
theorem dX6_laysCode_105 : decode cX6_laysCode 105 = .ok (.iload 7, 2) := by decide +kernel
theorem dX6_laysCode_107 : decode cX6_laysCode 107 = .ok (.iload 9, 2) := by decide +kernel
theorem dX6_laysCode_109 : decode cX6_laysCode 109 = .ok (.iastore, 1) := by decide +kernel
theorem dX6_laysCode_110 : decode cX6_laysCode 110 = .ok (.iload 6, 2) := by decide +kernel
theorem dX6_laysCode_112 : decode cX6_laysCode 112 = .ok (.iconst 1, 1) := by decide +kernel
theorem dX6_laysCode_113 : decode cX6_laysCode 113 = .ok (.iload 9, 2) := by decide +kernel
theorem dX6_laysCode_115 : decode cX6_laysCode 115 = .ok (.ishl, 1) := by decide +kernel
theorem dX6_laysCode_116 : decode cX6_laysCode 116 = .ok (.ior, 1) := by decide +kernel
theorem dX6_laysCode_117 : decode cX6_laysCode 117 = .ok (.istore 6, 2) := by decide +kernel
theorem dX6_laysCode_119 : decode cX6_laysCode 119 = .ok (.iinc 7 1, 3) := by decide +kernel
theorem dX6_laysCode_122 : decode cX6_laysCode 122 = .ok (.goto (-116), 3) := by decide +kernel
theorem dX6_laysCode_125 : decode cX6_laysCode 125 = .ok (.return_, 1) := by decide +kernel
set_option maxRecDepth 20000 in
theorem ggX6_ofCode_X6_within : GoodIn wsX6_ofCode wsX6_within := goodIn_r _ [5] (by decide +kernel) (by decide +kernel)
set_option maxRecDepth 20000 in
theorem gX6_ofCode_X6_within : GoodIn wsX6_ofCode (va_wsS RX6 51 yX6_within wsX6_within) := goodIn_app (goodIn_of _ (by decide +kernel)) ggX6_ofCode_X6_within
set_option maxRecDepth 20000 in
theorem ggX6_ofCode_X6_laysCode : GoodIn wsX6_ofCode wsX6_laysCode := goodIn_r _ [9] (by decide +kernel) (by decide +kernel)
set_option maxRecDepth 20000 in
theorem gX6_ofCode_X6_laysCode : GoodIn wsX6_ofCode (wsV RX6 73 RX6 yX6_laysCode wsX6_laysCode) := goodIn_app (goodIn_of _ (by decide +kernel)) ggX6_ofCode_X6_laysCode
set_option maxRecDepth 20000 in
theorem ggX6_ofCode_X6_plainOf : GoodIn wsX6_ofCode wsX6_plainOf := goodIn_r _ [12] (by decide +kernel) (by decide +kernel)
set_option maxRecDepth 20000 in
theorem gX6_ofCode_X6_plainOf : GoodIn wsX6_ofCode (va_wsS RX6 67 yX6_plainOf wsX6_plainOf) := goodIn_app (goodIn_of _ (by decide +kernel)) ggX6_ofCode_X6_plainOf
theorem dX6_ofCode_0 : decode cX6_ofCode 0 = .ok (.iload_n 1, 1) := by decide +kernel
theorem dX6_ofCode_1 : decode cX6_ofCode 1 = .ok (.iconst 0, 1) := by decide +kernel
theorem dX6_ofCode_2 : decode cX6_ofCode 2 = .ok (.bipush 8, 2) := by decide +kernel
theorem dX6_ofCode_4 : decode cX6_ofCode 4 = .ok (.invokestatic 51, 3) := by decide +kernel
theorem dX6_ofCode_7 : decode cX6_ofCode 7 = .ok (.ifCond .eq 33, 3) := by decide +kernel
theorem dX6_ofCode_10 : decode cX6_ofCode 10 = .ok (.iload_n 2, 1) := by decide +kernel
theorem dX6_ofCode_11 : decode cX6_ofCode 11 = .ok (.iconst 0, 1) := by decide +kernel
theorem dX6_ofCode_12 : decode cX6_ofCode 12 = .ok (.bipush 7, 2) := by decide +kernel
theorem dX6_ofCode_14 : decode cX6_ofCode 14 = .ok (.invokestatic 51, 3) := by decide +kernel
theorem dX6_ofCode_17 : decode cX6_ofCode 17 = .ok (.ifCond .eq 23, 3) := by decide +kernel
theorem dX6_ofCode_20 : decode cX6_ofCode 20 = .ok (.iload_n 3, 1) := by decide +kernel
theorem dX6_ofCode_21 : decode cX6_ofCode 21 = .ok (.iconst 0, 1) := by decide +kernel
theorem dX6_ofCode_22 : decode cX6_ofCode 22 = .ok (.bipush 6, 2) := by decide +kernel
theorem dX6_ofCode_24 : decode cX6_ofCode 24 = .ok (.invokestatic 51, 3) := by decide +kernel
theorem dX6_ofCode_27 : decode cX6_ofCode 27 = .ok (.ifCond .eq 13, 3) := by decide +kernel
theorem dX6_ofCode_30 : decode cX6_ofCode 30 = .ok (.iload 4, 2) := by decide +kernel
theorem dX6_ofCode_32 : decode cX6_ofCode 32 = .ok (.iconst 0, 1) := by decide +kernel
theorem dX6_ofCode_33 : decode cX6_ofCode 33 = .ok (.iconst 5, 1) := by decide +kernel
theorem dX6_ofCode_34 : decode cX6_ofCode 34 = .ok (.invokestatic 51, 3) := by decide +kernel
theorem dX6_ofCode_37 : decode cX6_ofCode 37 = .ok (.ifCond .ne 6, 3) := by decide +kernel
theorem dX6_ofCode_40 : decode cX6_ofCode 40 = .ok (.bipush (-2), 2) := by decide +kernel
theorem dX6_ofCode_42 : decode cX6_ofCode 42 = .ok (.ireturn, 1) := by decide +kernel
theorem dX6_ofCode_43 : decode cX6_ofCode 43 = .ok (.aload_n 0, 1) := by decide +kernel
theorem dX6_ofCode_44 : decode cX6_ofCode 44 = .ok (.iload_n 1, 1) := by decide +kernel
theorem dX6_ofCode_45 : decode cX6_ofCode 45 = .ok (.iload_n 2, 1) := by decide +kernel
theorem dX6_ofCode_46 : decode cX6_ofCode 46 = .ok (.iload_n 3, 1) := by decide +kernel
theorem dX6_ofCode_47 : decode cX6_ofCode 47 = .ok (.iload 4, 2) := by decide +kernel
theorem dX6_ofCode_49 : decode cX6_ofCode 49 = .ok (.aload_n 0, 1) := by decide +kernel
theorem dX6_ofCode_50 : decode cX6_ofCode 50 = .ok (.getfield 7, 3) := by decide +kernel
theorem dX6_ofCode_53 : decode cX6_ofCode 53 = .ok (.invokevirtual 73, 3) := by decide +kernel
theorem dX6_ofCode_56 : decode cX6_ofCode 56 = .ok (.aload_n 0, 1) := by decide +kernel
theorem dX6_ofCode_57 : decode cX6_ofCode 57 = .ok (.getfield 7, 3) := by decide +kernel
theorem dX6_ofCode_60 : decode cX6_ofCode 60 = .ok (.invokestatic 67, 3) := by decide +kernel
theorem dX6_ofCode_63 : decode cX6_ofCode 63 = .ok (.ireturn, 1) := by decide +kernel
theorem dX6_manyFrom_0 : decode cX6_manyFrom 0 = .ok (.iconst 0, 1) := by decide +kernel
theorem dX6_manyFrom_1 : decode cX6_manyFrom 1 = .ok (.istore_n 3, 1) := by decide +kernel
theorem dX6_manyFrom_2 : decode cX6_manyFrom 2 = .ok (.iconst 1, 1) := by decide +kernel
theorem dX6_manyFrom_3 : decode cX6_manyFrom 3 = .ok (.istore 4, 2) := by decide +kernel
theorem dX6_manyFrom_5 : decode cX6_manyFrom 5 = .ok (.iload 4, 2) := by decide +kernel
theorem dX6_manyFrom_7 : decode cX6_manyFrom 7 = .ok (.iload_n 1, 1) := by decide +kernel
theorem dX6_manyFrom_8 : decode cX6_manyFrom 8 = .ok (.if_icmp .gt 25, 3) := by decide +kernel
theorem dX6_manyFrom_11 : decode cX6_manyFrom 11 = .ok (.iload_n 3, 1) := by decide +kernel
theorem dX6_manyFrom_12 : decode cX6_manyFrom 12 = .ok (.aload_n 0, 1) := by decide +kernel
theorem dX6_manyFrom_13 : decode cX6_manyFrom 13 = .ok (.iload 4, 2) := by decide +kernel
theorem dX6_manyFrom_15 : decode cX6_manyFrom 15 = .ok (.iaload, 1) := by decide +kernel
theorem dX6_manyFrom_16 : decode cX6_manyFrom 16 = .ok (.iload_n 2, 1) := by decide +kernel
theorem dX6_manyFrom_17 : decode cX6_manyFrom 17 = .ok (.if_icmp .lt 7, 3) := by decide +kernel
theorem dX6_manyFrom_20 : decode cX6_manyFrom 20 = .ok (.iconst 1, 1) := by decide +kernel
theorem dX6_manyFrom_21 : decode cX6_manyFrom 21 = .ok (.goto 4, 3) := by decide +kernel
theorem dX6_manyFrom_24 : decode cX6_manyFrom 24 = .ok (.iconst 0, 1) := by decide +kernel
theorem dX6_manyFrom_25 : decode cX6_manyFrom 25 = .ok (.iadd, 1) := by decide +kernel
theorem dX6_manyFrom_26 : decode cX6_manyFrom 26 = .ok (.istore_n 3, 1) := by decide +kernel
theorem dX6_manyFrom_27 : decode cX6_manyFrom 27 = .ok (.iinc 4 1, 3) := by decide +kernel
theorem dX6_manyFrom_30 : decode cX6_manyFrom 30 = .ok (.goto (-25), 3) := by decide +kernel
theorem dX6_manyFrom_33 : decode cX6_manyFrom 33 = .ok (.iload_n 3, 1) := by decide +kernel
theorem dX6_manyFrom_34 : decode cX6_manyFrom 34 = .ok (.ireturn, 1) := by decide +kernel
set_option maxRecDepth 20000 in
theorem ggX6_below_X6_lays : GoodIn wsX6_below wsX6_lays := goodIn_r _ [6, 7, 8, 5, 9] (by decide +kernel) (by decide +kernel)
set_option maxRecDepth 20000 in
theorem gX6_below_X6_lays : GoodIn wsX6_below (va_wsS RX6 63 yX6_lays wsX6_lays) := goodIn_app (goodIn_of _ (by decide +kernel)) ggX6_below_X6_lays
set_option maxRecDepth 20000 in
theorem ggX6_below_X6_manyFrom : GoodIn wsX6_below wsX6_manyFrom := goodIn_r _ [12] (by decide +kernel) (by decide +kernel)
set_option maxRecDepth 20000 in
theorem gX6_below_X6_manyFrom : GoodIn wsX6_below (va_wsS RX6 77 yX6_manyFrom wsX6_manyFrom) := goodIn_app (goodIn_of _ (by decide +kernel)) ggX6_below_X6_manyFrom
theorem dX6_below_0 : decode cX6_below 0 = .ok (.iload_n 1, 1) := by decide +kernel
theorem dX6_below_1 : decode cX6_below 1 = .ok (.aload_n 0, 1) := by decide +kernel
theorem dX6_below_2 : decode cX6_below 2 = .ok (.getfield 7, 3) := by decide +kernel
theorem dX6_below_5 : decode cX6_below 5 = .ok (.invokestatic 63, 3) := by decide +kernel
theorem dX6_below_8 : decode cX6_below 8 = .ok (.ifCond .eq 14, 3) := by decide +kernel
theorem dX6_below_11 : decode cX6_below 11 = .ok (.iload_n 2, 1) := by decide +kernel
theorem dX6_below_12 : decode cX6_below 12 = .ok (.aload_n 0, 1) := by decide +kernel
theorem dX6_below_13 : decode cX6_below 13 = .ok (.getfield 13, 3) := by decide +kernel
theorem dX6_below_16 : decode cX6_below 16 = .ok (.invokestatic 63, 3) := by decide +kernel
theorem dX6_below_19 : decode cX6_below 19 = .ok (.ifCond .ne 6, 3) := by decide +kernel
theorem dX6_below_22 : decode cX6_below 22 = .ok (.bipush (-2), 2) := by decide +kernel
theorem dX6_below_24 : decode cX6_below 24 = .ok (.ireturn, 1) := by decide +kernel
theorem dX6_below_25 : decode cX6_below 25 = .ok (.iconst 1, 1) := by decide +kernel
theorem dX6_below_26 : decode cX6_below 26 = .ok (.istore_n 3, 1) := by decide +kernel
theorem dX6_below_27 : decode cX6_below 27 = .ok (.iload_n 3, 1) := by decide +kernel
theorem dX6_below_28 : decode cX6_below 28 = .ok (.bipush 9, 2) := by decide +kernel
theorem dX6_below_30 : decode cX6_below 30 = .ok (.if_icmp .gt 50, 3) := by decide +kernel
theorem dX6_below_33 : decode cX6_below 33 = .ok (.iconst 1, 1) := by decide +kernel
theorem dX6_below_34 : decode cX6_below 34 = .ok (.istore 4, 2) := by decide +kernel
theorem dX6_below_36 : decode cX6_below 36 = .ok (.iload 4, 2) := by decide +kernel
theorem dX6_below_38 : decode cX6_below 38 = .ok (.bipush 9, 2) := by decide +kernel
theorem dX6_below_40 : decode cX6_below 40 = .ok (.if_icmp .gt 34, 3) := by decide +kernel
theorem dX6_below_43 : decode cX6_below 43 = .ok (.aload_n 0, 1) := by decide +kernel
theorem dX6_below_44 : decode cX6_below 44 = .ok (.getfield 7, 3) := by decide +kernel
theorem dX6_below_47 : decode cX6_below 47 = .ok (.iload_n 3, 1) := by decide +kernel
theorem dX6_below_48 : decode cX6_below 48 = .ok (.iload 4, 2) := by decide +kernel
theorem dX6_below_50 : decode cX6_below 50 = .ok (.invokestatic 77, 3) := by decide +kernel
theorem dX6_below_53 : decode cX6_below 53 = .ok (.aload_n 0, 1) := by decide +kernel
theorem dX6_below_54 : decode cX6_below 54 = .ok (.getfield 13, 3) := by decide +kernel
theorem dX6_below_57 : decode cX6_below 57 = .ok (.iload_n 3, 1) := by decide +kernel
theorem dX6_below_58 : decode cX6_below 58 = .ok (.iload 4, 2) := by decide +kernel
theorem dX6_below_60 : decode cX6_below 60 = .ok (.invokestatic 77, 3) := by decide +kernel
theorem dX6_below_63 : decode cX6_below 63 = .ok (.if_icmp .le 5, 3) := by decide +kernel
theorem dX6_below_66 : decode cX6_below 66 = .ok (.iconst 0, 1) := by decide +kernel
theorem dX6_below_67 : decode cX6_below 67 = .ok (.ireturn, 1) := by decide +kernel
theorem dX6_below_68 : decode cX6_below 68 = .ok (.iinc 4 1, 3) := by decide +kernel
theorem dX6_below_71 : decode cX6_below 71 = .ok (.goto (-35), 3) := by decide +kernel
theorem dX6_below_74 : decode cX6_below 74 = .ok (.iinc 3 1, 3) := by decide +kernel
theorem dX6_below_77 : decode cX6_below 77 = .ok (.goto (-50), 3) := by decide +kernel
theorem dX6_below_80 : decode cX6_below 80 = .ok (.iconst 1, 1) := by decide +kernel
theorem dX6_below_81 : decode cX6_below 81 = .ok (.ireturn, 1) := by decide +kernel
set_option maxRecDepth 20000 in
theorem ggX6_laysSmall_X6_laysCode : GoodIn wsX6_laysSmall wsX6_laysCode := goodIn_r _ [6] (by decide +kernel) (by decide +kernel)
set_option maxRecDepth 20000 in
theorem gX6_laysSmall_X6_laysCode : GoodIn wsX6_laysSmall (wsV RX6 73 RX6 yX6_laysCode wsX6_laysCode) := goodIn_app (goodIn_of _ (by decide +kernel)) ggX6_laysSmall_X6_laysCode
theorem dX6_laysSmall_0 : decode cX6_laysSmall 0 = .ok (.aload_n 0, 1) := by decide +kernel
theorem dX6_laysSmall_1 : decode cX6_laysSmall 1 = .ok (.iload_n 1, 1) := by decide +kernel
theorem dX6_laysSmall_2 : decode cX6_laysSmall 2 = .ok (.bipush 24, 2) := by decide +kernel
theorem dX6_laysSmall_4 : decode cX6_laysSmall 4 = .ok (.idiv, 1) := by decide +kernel
theorem dX6_laysSmall_5 : decode cX6_laysSmall 5 = .ok (.iload_n 1, 1) := by decide +kernel
theorem dX6_laysSmall_6 : decode cX6_laysSmall 6 = .ok (.bipush 6, 2) := by decide +kernel
theorem dX6_laysSmall_8 : decode cX6_laysSmall 8 = .ok (.idiv, 1) := by decide +kernel
theorem dX6_laysSmall_9 : decode cX6_laysSmall 9 = .ok (.iconst 4, 1) := by decide +kernel
theorem dX6_laysSmall_10 : decode cX6_laysSmall 10 = .ok (.irem, 1) := by decide +kernel
theorem dX6_laysSmall_11 : decode cX6_laysSmall 11 = .ok (.iload_n 1, 1) := by decide +kernel
theorem dX6_laysSmall_12 : decode cX6_laysSmall 12 = .ok (.iconst 2, 1) := by decide +kernel
theorem dX6_laysSmall_13 : decode cX6_laysSmall 13 = .ok (.idiv, 1) := by decide +kernel
theorem dX6_laysSmall_14 : decode cX6_laysSmall 14 = .ok (.iconst 3, 1) := by decide +kernel
theorem dX6_laysSmall_15 : decode cX6_laysSmall 15 = .ok (.irem, 1) := by decide +kernel
theorem dX6_laysSmall_16 : decode cX6_laysSmall 16 = .ok (.iload_n 1, 1) := by decide +kernel
theorem dX6_laysSmall_17 : decode cX6_laysSmall 17 = .ok (.iconst 2, 1) := by decide +kernel
theorem dX6_laysSmall_18 : decode cX6_laysSmall 18 = .ok (.irem, 1) := by decide +kernel
theorem dX6_laysSmall_19 : decode cX6_laysSmall 19 = .ok (.aload_n 0, 1) := by decide +kernel
theorem dX6_laysSmall_20 : decode cX6_laysSmall 20 = .ok (.getfield 13, 3) := by decide +kernel
theorem dX6_laysSmall_23 : decode cX6_laysSmall 23 = .ok (.invokevirtual 73, 3) := by decide +kernel
theorem dX6_laysSmall_26 : decode cX6_laysSmall 26 = .ok (.return_, 1) := by decide +kernel
set_option maxRecDepth 20000 in
theorem ggX6_smallOf_X6_codeAt : GoodIn wsX6_smallOf wsX6_codeAt := goodIn_r _ [4] (by decide +kernel) (by decide +kernel)
set_option maxRecDepth 20000 in
theorem gX6_smallOf_X6_codeAt : GoodIn wsX6_smallOf (va_wsS RX6 55 yX6_codeAt wsX6_codeAt) := goodIn_app (goodIn_of _ (by decide +kernel)) ggX6_smallOf_X6_codeAt
theorem dX6_smallOf_0 : decode cX6_smallOf 0 = .ok (.bipush 24, 2) := by decide +kernel
theorem dX6_smallOf_2 : decode cX6_smallOf 2 = .ok (.aload_n 0, 1) := by decide +kernel
theorem dX6_smallOf_3 : decode cX6_smallOf 3 = .ok (.iconst 1, 1) := by decide +kernel
theorem dX6_smallOf_4 : decode cX6_smallOf 4 = .ok (.invokestatic 55, 3) := by decide +kernel
theorem dX6_smallOf_7 : decode cX6_smallOf 7 = .ok (.imul, 1) := by decide +kernel
theorem dX6_smallOf_8 : decode cX6_smallOf 8 = .ok (.bipush 6, 2) := by decide +kernel
theorem dX6_smallOf_10 : decode cX6_smallOf 10 = .ok (.aload_n 0, 1) := by decide +kernel
theorem dX6_smallOf_11 : decode cX6_smallOf 11 = .ok (.iconst 2, 1) := by decide +kernel
theorem dX6_smallOf_12 : decode cX6_smallOf 12 = .ok (.invokestatic 55, 3) := by decide +kernel
theorem dX6_smallOf_15 : decode cX6_smallOf 15 = .ok (.imul, 1) := by decide +kernel
theorem dX6_smallOf_16 : decode cX6_smallOf 16 = .ok (.iadd, 1) := by decide +kernel
theorem dX6_smallOf_17 : decode cX6_smallOf 17 = .ok (.iconst 2, 1) := by decide +kernel
theorem dX6_smallOf_18 : decode cX6_smallOf 18 = .ok (.aload_n 0, 1) := by decide +kernel
theorem dX6_smallOf_19 : decode cX6_smallOf 19 = .ok (.iconst 3, 1) := by decide +kernel
theorem dX6_smallOf_20 : decode cX6_smallOf 20 = .ok (.invokestatic 55, 3) := by decide +kernel
theorem dX6_smallOf_23 : decode cX6_smallOf 23 = .ok (.imul, 1) := by decide +kernel
theorem dX6_smallOf_24 : decode cX6_smallOf 24 = .ok (.iadd, 1) := by decide +kernel
theorem dX6_smallOf_25 : decode cX6_smallOf 25 = .ok (.aload_n 0, 1) := by decide +kernel
theorem dX6_smallOf_26 : decode cX6_smallOf 26 = .ok (.iconst 4, 1) := by decide +kernel
theorem dX6_smallOf_27 : decode cX6_smallOf 27 = .ok (.invokestatic 55, 3) := by decide +kernel
theorem dX6_smallOf_30 : decode cX6_smallOf 30 = .ok (.iadd, 1) := by decide +kernel
theorem dX6_smallOf_31 : decode cX6_smallOf 31 = .ok (.ireturn, 1) := by decide +kernel
set_option maxRecDepth 20000 in
theorem ggX6_findWays_X6_laysSmall : GoodIn wsX6_findWays wsX6_laysSmall := goodIn_r _ [7, 1, 8, 9, 10, 6, 11, 21, 22, 23, 24, 25, 26, 27, 28, 29, 30, 31, 32, 33, 34, 35, 36] (by decide +kernel) (by decide +kernel)
set_option maxRecDepth 20000 in
theorem gX6_findWays_X6_laysSmall : GoodIn wsX6_findWays (wsV RX6 81 RX6 yX6_laysSmall wsX6_laysSmall) := goodIn_app (goodIn_of _ (by decide +kernel)) ggX6_findWays_X6_laysSmall
set_option maxRecDepth 20000 in
theorem ggX6_findWays_X6_exchange : GoodIn wsX6_findWays wsX6_exchange := goodIn_r _ [14] (by decide +kernel) (by decide +kernel)
set_option maxRecDepth 20000 in
theorem gX6_findWays_X6_exchange : GoodIn wsX6_findWays (va_wsS RX6 85 yX6_exchange wsX6_exchange) := goodIn_app (goodIn_of _ (by decide +kernel)) ggX6_findWays_X6_exchange
set_option maxRecDepth 20000 in
theorem ggX6_findWays_X6_smallOf : GoodIn wsX6_findWays wsX6_smallOf := goodIn_r _ [17, 18, 19, 6, 20] (by decide +kernel) (by decide +kernel)
set_option maxRecDepth 20000 in
theorem gX6_findWays_X6_smallOf : GoodIn wsX6_findWays (va_wsS RX6 89 yX6_smallOf wsX6_smallOf) := goodIn_app (goodIn_of _ (by decide +kernel)) ggX6_findWays_X6_smallOf
theorem dX6_findWays_0 : decode cX6_findWays 0 = .ok (.iconst 0, 1) := by decide +kernel
theorem dX6_findWays_1 : decode cX6_findWays 1 = .ok (.istore_n 2, 1) := by decide +kernel
theorem dX6_findWays_2 : decode cX6_findWays 2 = .ok (.iconst 1, 1) := by decide +kernel
theorem dX6_findWays_3 : decode cX6_findWays 3 = .ok (.istore_n 3, 1) := by decide +kernel
theorem dX6_findWays_4 : decode cX6_findWays 4 = .ok (.iload_n 3, 1) := by decide +kernel
theorem dX6_findWays_5 : decode cX6_findWays 5 = .ok (.iconst 5, 1) := by decide +kernel
theorem dX6_findWays_6 : decode cX6_findWays 6 = .ok (.if_icmp .ge 57, 3) := by decide +kernel
theorem dX6_findWays_9 : decode cX6_findWays 9 = .ok (.aload_n 0, 1) := by decide +kernel
theorem dX6_findWays_10 : decode cX6_findWays 10 = .ok (.iload_n 1, 1) := by decide +kernel
theorem dX6_findWays_11 : decode cX6_findWays 11 = .ok (.invokevirtual 81, 3) := by decide +kernel
theorem dX6_findWays_14 : decode cX6_findWays 14 = .ok (.aload_n 0, 1) := by decide +kernel
theorem dX6_findWays_15 : decode cX6_findWays 15 = .ok (.getfield 13, 3) := by decide +kernel
theorem dX6_findWays_18 : decode cX6_findWays 18 = .ok (.iload_n 3, 1) := by decide +kernel
theorem dX6_findWays_19 : decode cX6_findWays 19 = .ok (.iaload, 1) := by decide +kernel
theorem dX6_findWays_20 : decode cX6_findWays 20 = .ok (.aload_n 0, 1) := by decide +kernel
theorem dX6_findWays_21 : decode cX6_findWays 21 = .ok (.getfield 13, 3) := by decide +kernel
theorem dX6_findWays_24 : decode cX6_findWays 24 = .ok (.iload_n 3, 1) := by decide +kernel
theorem dX6_findWays_25 : decode cX6_findWays 25 = .ok (.iconst 1, 1) := by decide +kernel
theorem dX6_findWays_26 : decode cX6_findWays 26 = .ok (.iadd, 1) := by decide +kernel
theorem dX6_findWays_27 : decode cX6_findWays 27 = .ok (.iaload, 1) := by decide +kernel
theorem dX6_findWays_28 : decode cX6_findWays 28 = .ok (.if_icmp .le 29, 3) := by decide +kernel
theorem dX6_findWays_31 : decode cX6_findWays 31 = .ok (.aload_n 0, 1) := by decide +kernel
theorem dX6_findWays_32 : decode cX6_findWays 32 = .ok (.getfield 13, 3) := by decide +kernel
theorem dX6_findWays_35 : decode cX6_findWays 35 = .ok (.iload_n 3, 1) := by decide +kernel
theorem dX6_findWays_36 : decode cX6_findWays 36 = .ok (.iload_n 3, 1) := by decide +kernel
theorem dX6_findWays_37 : decode cX6_findWays 37 = .ok (.iconst 1, 1) := by decide +kernel
theorem dX6_findWays_38 : decode cX6_findWays 38 = .ok (.iadd, 1) := by decide +kernel
theorem dX6_findWays_39 : decode cX6_findWays 39 = .ok (.invokestatic 85, 3) := by decide +kernel
theorem dX6_findWays_42 : decode cX6_findWays 42 = .ok (.iload_n 2, 1) := by decide +kernel
theorem dX6_findWays_43 : decode cX6_findWays 43 = .ok (.aload_n 0, 1) := by decide +kernel
theorem dX6_findWays_44 : decode cX6_findWays 44 = .ok (.getfield 19, 3) := by decide +kernel
theorem dX6_findWays_47 : decode cX6_findWays 47 = .ok (.aload_n 0, 1) := by decide +kernel
theorem dX6_findWays_48 : decode cX6_findWays 48 = .ok (.getfield 13, 3) := by decide +kernel
theorem dX6_findWays_51 : decode cX6_findWays 51 = .ok (.invokestatic 89, 3) := by decide +kernel
theorem dX6_findWays_54 : decode cX6_findWays 54 = .ok (.iaload, 1) := by decide +kernel
theorem dX6_findWays_55 : decode cX6_findWays 55 = .ok (.iadd, 1) := by decide +kernel
theorem dX6_findWays_56 : decode cX6_findWays 56 = .ok (.istore_n 2, 1) := by decide +kernel
theorem dX6_findWays_57 : decode cX6_findWays 57 = .ok (.iinc 3 1, 3) := by decide +kernel
theorem dX6_findWays_60 : decode cX6_findWays 60 = .ok (.goto (-56), 3) := by decide +kernel
theorem dX6_findWays_63 : decode cX6_findWays 63 = .ok (.aload_n 0, 1) := by decide +kernel
theorem dX6_findWays_64 : decode cX6_findWays 64 = .ok (.getfield 19, 3) := by decide +kernel
theorem dX6_findWays_67 : decode cX6_findWays 67 = .ok (.iload_n 1, 1) := by decide +kernel
theorem dX6_findWays_68 : decode cX6_findWays 68 = .ok (.iload_n 1, 1) := by decide +kernel
theorem dX6_findWays_69 : decode cX6_findWays 69 = .ok (.ifCond .ne 7, 3) := by decide +kernel
theorem dX6_findWays_72 : decode cX6_findWays 72 = .ok (.iconst 1, 1) := by decide +kernel
theorem dX6_findWays_73 : decode cX6_findWays 73 = .ok (.goto 4, 3) := by decide +kernel
theorem dX6_findWays_76 : decode cX6_findWays 76 = .ok (.iload_n 2, 1) := by decide +kernel
theorem dX6_findWays_77 : decode cX6_findWays 77 = .ok (.iastore, 1) := by decide +kernel
theorem dX6_findWays_78 : decode cX6_findWays 78 = .ok (.return_, 1) := by decide +kernel
set_option maxRecDepth 20000 in
theorem ggX6_words_X6_lays : GoodIn wsX6_words wsX6_lays := goodIn_r _ [6, 7, 8, 5, 9] (by decide +kernel) (by decide +kernel)
set_option maxRecDepth 20000 in
theorem gX6_words_X6_lays : GoodIn wsX6_words (va_wsS RX6 63 yX6_lays wsX6_lays) := goodIn_app (goodIn_of _ (by decide +kernel)) ggX6_words_X6_lays
set_option maxRecDepth 20000 in
theorem ggX6_words_X6_isSmall : GoodIn wsX6_words wsX6_isSmall := goodIn_r _ [12] (by decide +kernel) (by decide +kernel)
set_option maxRecDepth 20000 in
theorem gX6_words_X6_isSmall : GoodIn wsX6_words (va_wsS RX6 92 yX6_isSmall wsX6_isSmall) := goodIn_app (goodIn_of _ (by decide +kernel)) ggX6_words_X6_isSmall
set_option maxRecDepth 20000 in
theorem ggX6_words_X6_lengthOf : GoodIn wsX6_words wsX6_lengthOf := goodIn_r _ [15, 16, 17, 5, 18] (by decide +kernel) (by decide +kernel)
set_option maxRecDepth 20000 in
theorem gX6_words_X6_lengthOf : GoodIn wsX6_words (va_wsS RX6 70 yX6_lengthOf wsX6_lengthOf) := goodIn_app (goodIn_of _ (by decide +kernel)) ggX6_words_X6_lengthOf
set_option maxRecDepth 20000 in
theorem ggX6_words_X6_findWays : GoodIn wsX6_words wsX6_findWays := goodIn_r _ [22, 23, 2, 24, 25, 26, 5, 27, 28, 29, 30, 31, 32, 33, 34, 35, 36, 37, 16, 17, 18, 38, 39, 40, 41, 42, 43, 44, 45, 46, 47, 48, 49, 50, 51, 52, 53] (by decide +kernel) (by decide +kernel)
set_option maxRecDepth 20000 in
theorem gX6_words_X6_findWays : GoodIn wsX6_words (wsV RX6 96 RX6 yX6_findWays wsX6_findWays) := goodIn_app (goodIn_of _ (by decide +kernel)) ggX6_words_X6_findWays
set_option maxRecDepth 20000 in
theorem ggX6_words_X6_smallOf : GoodIn wsX6_words wsX6_smallOf := goodIn_r _ [37, 16, 17, 5, 18] (by decide +kernel) (by decide +kernel)
set_option maxRecDepth 20000 in
theorem gX6_words_X6_smallOf : GoodIn wsX6_words (va_wsS RX6 89 yX6_smallOf wsX6_smallOf) := goodIn_app (goodIn_of _ (by decide +kernel)) ggX6_words_X6_smallOf
theorem dX6_words_0 : decode cX6_words 0 = .ok (.iload_n 1, 1) := by decide +kernel
theorem dX6_words_1 : decode cX6_words 1 = .ok (.aload_n 0, 1) := by decide +kernel
theorem dX6_words_2 : decode cX6_words 2 = .ok (.getfield 7, 3) := by decide +kernel
theorem dX6_words_5 : decode cX6_words 5 = .ok (.invokestatic 63, 3) := by decide +kernel
theorem dX6_words_8 : decode cX6_words 8 = .ok (.ifCond .ne 6, 3) := by decide +kernel
theorem dX6_words_11 : decode cX6_words 11 = .ok (.bipush (-2), 2) := by decide +kernel
theorem dX6_words_13 : decode cX6_words 13 = .ok (.ireturn, 1) := by decide +kernel
theorem dX6_words_14 : decode cX6_words 14 = .ok (.aload_n 0, 1) := by decide +kernel
theorem dX6_words_15 : decode cX6_words 15 = .ok (.getfield 7, 3) := by decide +kernel
theorem dX6_words_18 : decode cX6_words 18 = .ok (.invokestatic 92, 3) := by decide +kernel
theorem dX6_words_21 : decode cX6_words 21 = .ok (.ifCond .ne 6, 3) := by decide +kernel
theorem dX6_words_24 : decode cX6_words 24 = .ok (.bipush (-3), 2) := by decide +kernel
theorem dX6_words_26 : decode cX6_words 26 = .ok (.ireturn, 1) := by decide +kernel
theorem dX6_words_27 : decode cX6_words 27 = .ok (.aload_n 0, 1) := by decide +kernel
theorem dX6_words_28 : decode cX6_words 28 = .ok (.getfield 7, 3) := by decide +kernel
theorem dX6_words_31 : decode cX6_words 31 = .ok (.invokestatic 70, 3) := by decide +kernel
theorem dX6_words_34 : decode cX6_words 34 = .ok (.istore_n 2, 1) := by decide +kernel
theorem dX6_words_35 : decode cX6_words 35 = .ok (.iconst 0, 1) := by decide +kernel
theorem dX6_words_36 : decode cX6_words 36 = .ok (.istore_n 3, 1) := by decide +kernel
theorem dX6_words_37 : decode cX6_words 37 = .ok (.iload_n 3, 1) := by decide +kernel
theorem dX6_words_38 : decode cX6_words 38 = .ok (.iload_n 2, 1) := by decide +kernel
theorem dX6_words_39 : decode cX6_words 39 = .ok (.if_icmp .gt 60, 3) := by decide +kernel
theorem dX6_words_42 : decode cX6_words 42 = .ok (.iconst 0, 1) := by decide +kernel
theorem dX6_words_43 : decode cX6_words 43 = .ok (.istore 4, 2) := by decide +kernel
theorem dX6_words_45 : decode cX6_words 45 = .ok (.iload 4, 2) := by decide +kernel
theorem dX6_words_47 : decode cX6_words 47 = .ok (.bipush 120, 2) := by decide +kernel
theorem dX6_words_49 : decode cX6_words 49 = .ok (.if_icmp .ge 44, 3) := by decide +kernel
theorem dX6_words_52 : decode cX6_words 52 = .ok (.iload 4, 2) := by decide +kernel
theorem dX6_words_54 : decode cX6_words 54 = .ok (.bipush 24, 2) := by decide +kernel
theorem dX6_words_56 : decode cX6_words 56 = .ok (.idiv, 1) := by decide +kernel
theorem dX6_words_57 : decode cX6_words 57 = .ok (.iload 4, 2) := by decide +kernel
theorem dX6_words_59 : decode cX6_words 59 = .ok (.bipush 6, 2) := by decide +kernel
theorem dX6_words_61 : decode cX6_words 61 = .ok (.idiv, 1) := by decide +kernel
theorem dX6_words_62 : decode cX6_words 62 = .ok (.iconst 4, 1) := by decide +kernel
theorem dX6_words_63 : decode cX6_words 63 = .ok (.irem, 1) := by decide +kernel
theorem dX6_words_64 : decode cX6_words 64 = .ok (.iadd, 1) := by decide +kernel
theorem dX6_words_65 : decode cX6_words 65 = .ok (.iload 4, 2) := by decide +kernel
theorem dX6_words_67 : decode cX6_words 67 = .ok (.iconst 2, 1) := by decide +kernel
theorem dX6_words_68 : decode cX6_words 68 = .ok (.idiv, 1) := by decide +kernel
theorem dX6_words_69 : decode cX6_words 69 = .ok (.iconst 3, 1) := by decide +kernel
theorem dX6_words_70 : decode cX6_words 70 = .ok (.irem, 1) := by decide +kernel
theorem dX6_words_71 : decode cX6_words 71 = .ok (.iadd, 1) := by decide +kernel
theorem dX6_words_72 : decode cX6_words 72 = .ok (.iload 4, 2) := by decide +kernel
theorem dX6_words_74 : decode cX6_words 74 = .ok (.iconst 2, 1) := by decide +kernel
theorem dX6_words_75 : decode cX6_words 75 = .ok (.irem, 1) := by decide +kernel
theorem dX6_words_76 : decode cX6_words 76 = .ok (.iadd, 1) := by decide +kernel
theorem dX6_words_77 : decode cX6_words 77 = .ok (.iload_n 3, 1) := by decide +kernel
theorem dX6_words_78 : decode cX6_words 78 = .ok (.if_icmp .ne 9, 3) := by decide +kernel
theorem dX6_words_81 : decode cX6_words 81 = .ok (.aload_n 0, 1) := by decide +kernel
theorem dX6_words_82 : decode cX6_words 82 = .ok (.iload 4, 2) := by decide +kernel
theorem dX6_words_84 : decode cX6_words 84 = .ok (.invokevirtual 96, 3) := by decide +kernel
theorem dX6_words_87 : decode cX6_words 87 = .ok (.iinc 4 1, 3) := by decide +kernel
theorem dX6_words_90 : decode cX6_words 90 = .ok (.goto (-45), 3) := by decide +kernel
theorem dX6_words_93 : decode cX6_words 93 = .ok (.iinc 3 1, 3) := by decide +kernel
theorem dX6_words_96 : decode cX6_words 96 = .ok (.goto (-59), 3) := by decide +kernel
theorem dX6_words_99 : decode cX6_words 99 = .ok (.aload_n 0, 1) := by decide +kernel
theorem dX6_words_100 : decode cX6_words 100 = .ok (.getfield 19, 3) := by decide +kernel
theorem dX6_words_103 : decode cX6_words 103 = .ok (.aload_n 0, 1) := by decide +kernel
theorem dX6_words_104 : decode cX6_words 104 = .ok (.getfield 7, 3) := by decide +kernel
theorem dX6_words_107 : decode cX6_words 107 = .ok (.invokestatic 89, 3) := by decide +kernel
theorem dX6_words_110 : decode cX6_words 110 = .ok (.iaload, 1) := by decide +kernel
theorem dX6_words_111 : decode cX6_words 111 = .ok (.ireturn, 1) := by decide +kernel
theorem dX6_cellOf_0 : decode cX6_cellOf 0 = .ok (.iload_n 0, 1) := by decide +kernel
theorem dX6_cellOf_1 : decode cX6_cellOf 1 = .ok (.bipush 8, 2) := by decide +kernel
theorem dX6_cellOf_3 : decode cX6_cellOf 3 = .ok (.imul, 1) := by decide +kernel
theorem dX6_cellOf_4 : decode cX6_cellOf 4 = .ok (.iload_n 1, 1) := by decide +kernel
theorem dX6_cellOf_5 : decode cX6_cellOf 5 = .ok (.iadd, 1) := by decide +kernel
theorem dX6_cellOf_6 : decode cX6_cellOf 6 = .ok (.bipush 7, 2) := by decide +kernel
theorem dX6_cellOf_8 : decode cX6_cellOf 8 = .ok (.imul, 1) := by decide +kernel
theorem dX6_cellOf_9 : decode cX6_cellOf 9 = .ok (.iload_n 2, 1) := by decide +kernel
theorem dX6_cellOf_10 : decode cX6_cellOf 10 = .ok (.iadd, 1) := by decide +kernel
theorem dX6_cellOf_11 : decode cX6_cellOf 11 = .ok (.bipush 6, 2) := by decide +kernel
theorem dX6_cellOf_13 : decode cX6_cellOf 13 = .ok (.imul, 1) := by decide +kernel
theorem dX6_cellOf_14 : decode cX6_cellOf 14 = .ok (.iload_n 3, 1) := by decide +kernel
theorem dX6_cellOf_15 : decode cX6_cellOf 15 = .ok (.iadd, 1) := by decide +kernel
theorem dX6_cellOf_16 : decode cX6_cellOf 16 = .ok (.ireturn, 1) := by decide +kernel
set_option maxRecDepth 20000 in
theorem ggX6_isCell_X6_within : GoodIn wsX6_isCell wsX6_within := goodIn_r _ [4] (by decide +kernel) (by decide +kernel)
set_option maxRecDepth 20000 in
theorem gX6_isCell_X6_within : GoodIn wsX6_isCell (va_wsS RX6 51 yX6_within wsX6_within) := goodIn_app (goodIn_of _ (by decide +kernel)) ggX6_isCell_X6_within
theorem dX6_isCell_0 : decode cX6_isCell 0 = .ok (.iload_n 0, 1) := by decide +kernel
theorem dX6_isCell_1 : decode cX6_isCell 1 = .ok (.iconst 0, 1) := by decide +kernel
theorem dX6_isCell_2 : decode cX6_isCell 2 = .ok (.bipush 8, 2) := by decide +kernel
theorem dX6_isCell_4 : decode cX6_isCell 4 = .ok (.invokestatic 51, 3) := by decide +kernel
theorem dX6_isCell_7 : decode cX6_isCell 7 = .ok (.ifCond .eq 36, 3) := by decide +kernel
theorem dX6_isCell_10 : decode cX6_isCell 10 = .ok (.iload_n 1, 1) := by decide +kernel
theorem dX6_isCell_11 : decode cX6_isCell 11 = .ok (.iconst 0, 1) := by decide +kernel
theorem dX6_isCell_12 : decode cX6_isCell 12 = .ok (.bipush 7, 2) := by decide +kernel
theorem dX6_isCell_14 : decode cX6_isCell 14 = .ok (.invokestatic 51, 3) := by decide +kernel
theorem dX6_isCell_17 : decode cX6_isCell 17 = .ok (.ifCond .eq 26, 3) := by decide +kernel
theorem dX6_isCell_20 : decode cX6_isCell 20 = .ok (.iload_n 2, 1) := by decide +kernel
theorem dX6_isCell_21 : decode cX6_isCell 21 = .ok (.iconst 0, 1) := by decide +kernel
theorem dX6_isCell_22 : decode cX6_isCell 22 = .ok (.bipush 6, 2) := by decide +kernel
theorem dX6_isCell_24 : decode cX6_isCell 24 = .ok (.invokestatic 51, 3) := by decide +kernel
theorem dX6_isCell_27 : decode cX6_isCell 27 = .ok (.ifCond .eq 16, 3) := by decide +kernel
theorem dX6_isCell_30 : decode cX6_isCell 30 = .ok (.iload_n 3, 1) := by decide +kernel
theorem dX6_isCell_31 : decode cX6_isCell 31 = .ok (.iconst 0, 1) := by decide +kernel
theorem dX6_isCell_32 : decode cX6_isCell 32 = .ok (.iconst 5, 1) := by decide +kernel
theorem dX6_isCell_33 : decode cX6_isCell 33 = .ok (.invokestatic 51, 3) := by decide +kernel
theorem dX6_isCell_36 : decode cX6_isCell 36 = .ok (.ifCond .eq 7, 3) := by decide +kernel
theorem dX6_isCell_39 : decode cX6_isCell 39 = .ok (.iconst 1, 1) := by decide +kernel
theorem dX6_isCell_40 : decode cX6_isCell 40 = .ok (.goto 4, 3) := by decide +kernel
theorem dX6_isCell_43 : decode cX6_isCell 43 = .ok (.iconst 0, 1) := by decide +kernel
theorem dX6_isCell_44 : decode cX6_isCell 44 = .ok (.ireturn, 1) := by decide +kernel
theorem dX6_exponentAt_0 : decode cX6_exponentAt 0 = .ok (.iload_n 1, 1) := by decide +kernel
theorem dX6_exponentAt_1 : decode cX6_exponentAt 1 = .ok (.iconst 1, 1) := by decide +kernel
theorem dX6_exponentAt_2 : decode cX6_exponentAt 2 = .ok (.if_icmp .ne 11, 3) := by decide +kernel
theorem dX6_exponentAt_5 : decode cX6_exponentAt 5 = .ok (.iload_n 0, 1) := by decide +kernel
theorem dX6_exponentAt_6 : decode cX6_exponentAt 6 = .ok (.sipush 336, 3) := by decide +kernel
theorem dX6_exponentAt_9 : decode cX6_exponentAt 9 = .ok (.idiv, 1) := by decide +kernel
theorem dX6_exponentAt_10 : decode cX6_exponentAt 10 = .ok (.goto 37, 3) := by decide +kernel
theorem dX6_exponentAt_13 : decode cX6_exponentAt 13 = .ok (.iload_n 1, 1) := by decide +kernel
theorem dX6_exponentAt_14 : decode cX6_exponentAt 14 = .ok (.iconst 2, 1) := by decide +kernel
theorem dX6_exponentAt_15 : decode cX6_exponentAt 15 = .ok (.if_icmp .ne 13, 3) := by decide +kernel
theorem dX6_exponentAt_18 : decode cX6_exponentAt 18 = .ok (.iload_n 0, 1) := by decide +kernel
theorem dX6_exponentAt_19 : decode cX6_exponentAt 19 = .ok (.bipush 42, 2) := by decide +kernel
theorem dX6_exponentAt_21 : decode cX6_exponentAt 21 = .ok (.idiv, 1) := by decide +kernel
theorem dX6_exponentAt_22 : decode cX6_exponentAt 22 = .ok (.bipush 8, 2) := by decide +kernel
theorem dX6_exponentAt_24 : decode cX6_exponentAt 24 = .ok (.irem, 1) := by decide +kernel
theorem dX6_exponentAt_25 : decode cX6_exponentAt 25 = .ok (.goto 22, 3) := by decide +kernel
theorem dX6_exponentAt_28 : decode cX6_exponentAt 28 = .ok (.iload_n 1, 1) := by decide +kernel
theorem dX6_exponentAt_29 : decode cX6_exponentAt 29 = .ok (.iconst 3, 1) := by decide +kernel
theorem dX6_exponentAt_30 : decode cX6_exponentAt 30 = .ok (.if_icmp .ne 13, 3) := by decide +kernel
theorem dX6_exponentAt_33 : decode cX6_exponentAt 33 = .ok (.iload_n 0, 1) := by decide +kernel
theorem dX6_exponentAt_34 : decode cX6_exponentAt 34 = .ok (.bipush 6, 2) := by decide +kernel
theorem dX6_exponentAt_36 : decode cX6_exponentAt 36 = .ok (.idiv, 1) := by decide +kernel
theorem dX6_exponentAt_37 : decode cX6_exponentAt 37 = .ok (.bipush 7, 2) := by decide +kernel
theorem dX6_exponentAt_39 : decode cX6_exponentAt 39 = .ok (.irem, 1) := by decide +kernel
theorem dX6_exponentAt_40 : decode cX6_exponentAt 40 = .ok (.goto 7, 3) := by decide +kernel
theorem dX6_exponentAt_43 : decode cX6_exponentAt 43 = .ok (.iload_n 0, 1) := by decide +kernel
theorem dX6_exponentAt_44 : decode cX6_exponentAt 44 = .ok (.bipush 6, 2) := by decide +kernel
theorem dX6_exponentAt_46 : decode cX6_exponentAt 46 = .ok (.irem, 1) := by decide +kernel
theorem dX6_exponentAt_47 : decode cX6_exponentAt 47 = .ok (.ireturn, 1) := by decide +kernel
theorem dX6_strideOf_0 : decode cX6_strideOf 0 = .ok (.iload_n 0, 1) := by decide +kernel
theorem dX6_strideOf_1 : decode cX6_strideOf 1 = .ok (.iconst 1, 1) := by decide +kernel
theorem dX6_strideOf_2 : decode cX6_strideOf 2 = .ok (.if_icmp .ne 9, 3) := by decide +kernel
theorem dX6_strideOf_5 : decode cX6_strideOf 5 = .ok (.sipush 336, 3) := by decide +kernel
theorem dX6_strideOf_8 : decode cX6_strideOf 8 = .ok (.goto 24, 3) := by decide +kernel
theorem dX6_strideOf_11 : decode cX6_strideOf 11 = .ok (.iload_n 0, 1) := by decide +kernel
theorem dX6_strideOf_12 : decode cX6_strideOf 12 = .ok (.iconst 2, 1) := by decide +kernel
theorem dX6_strideOf_13 : decode cX6_strideOf 13 = .ok (.if_icmp .ne 8, 3) := by decide +kernel
theorem dX6_strideOf_16 : decode cX6_strideOf 16 = .ok (.bipush 42, 2) := by decide +kernel
theorem dX6_strideOf_18 : decode cX6_strideOf 18 = .ok (.goto 14, 3) := by decide +kernel
theorem dX6_strideOf_21 : decode cX6_strideOf 21 = .ok (.iload_n 0, 1) := by decide +kernel
theorem dX6_strideOf_22 : decode cX6_strideOf 22 = .ok (.iconst 3, 1) := by decide +kernel
theorem dX6_strideOf_23 : decode cX6_strideOf 23 = .ok (.if_icmp .ne 8, 3) := by decide +kernel
theorem dX6_strideOf_26 : decode cX6_strideOf 26 = .ok (.bipush 6, 2) := by decide +kernel
theorem dX6_strideOf_28 : decode cX6_strideOf 28 = .ok (.goto 4, 3) := by decide +kernel
theorem dX6_strideOf_31 : decode cX6_strideOf 31 = .ok (.iconst 1, 1) := by decide +kernel
theorem dX6_strideOf_32 : decode cX6_strideOf 32 = .ok (.ireturn, 1) := by decide +kernel
set_option maxRecDepth 20000 in
theorem ggX6_differs_X6_strideOf : GoodIn wsX6_differs wsX6_strideOf := goodIn_r _ [5] (by decide +kernel) (by decide +kernel)
set_option maxRecDepth 20000 in
theorem gX6_differs_X6_strideOf : GoodIn wsX6_differs (va_wsS RX6 99 yX6_strideOf wsX6_strideOf) := goodIn_app (goodIn_of _ (by decide +kernel)) ggX6_differs_X6_strideOf
set_option maxRecDepth 20000 in
theorem ggX6_differs_X6_exponentAt : GoodIn wsX6_differs wsX6_exponentAt := goodIn_r _ [8] (by decide +kernel) (by decide +kernel)
set_option maxRecDepth 20000 in
theorem gX6_differs_X6_exponentAt : GoodIn wsX6_differs (va_wsS RX6 103 yX6_exponentAt wsX6_exponentAt) := goodIn_app (goodIn_of _ (by decide +kernel)) ggX6_differs_X6_exponentAt
theorem dX6_differs_0 : decode cX6_differs 0 = .ok (.iconst 0, 1) := by decide +kernel
theorem dX6_differs_1 : decode cX6_differs 1 = .ok (.istore_n 3, 1) := by decide +kernel
theorem dX6_differs_2 : decode cX6_differs 2 = .ok (.iload_n 3, 1) := by decide +kernel
theorem dX6_differs_3 : decode cX6_differs 3 = .ok (.sipush 3024, 3) := by decide +kernel
theorem dX6_differs_6 : decode cX6_differs 6 = .ok (.if_icmp .ge 16, 3) := by decide +kernel
theorem dX6_differs_9 : decode cX6_differs 9 = .ok (.aload_n 0, 1) := by decide +kernel
theorem dX6_differs_10 : decode cX6_differs 10 = .ok (.getfield 26, 3) := by decide +kernel
theorem dX6_differs_13 : decode cX6_differs 13 = .ok (.iload_n 3, 1) := by decide +kernel
theorem dX6_differs_14 : decode cX6_differs 14 = .ok (.lconst 0, 1) := by decide +kernel
theorem dX6_differs_15 : decode cX6_differs 15 = .ok (.lastore, 1) := by decide +kernel
theorem dX6_differs_16 : decode cX6_differs 16 = .ok (.iinc 3 1, 3) := by decide +kernel
theorem dX6_differs_19 : decode cX6_differs 19 = .ok (.goto (-17), 3) := by decide +kernel
theorem dX6_differs_22 : decode cX6_differs 22 = .ok (.iload_n 2, 1) := by decide +kernel
theorem dX6_differs_23 : decode cX6_differs 23 = .ok (.invokestatic 99, 3) := by decide +kernel
theorem dX6_differs_26 : decode cX6_differs 26 = .ok (.istore_n 3, 1) := by decide +kernel
theorem dX6_differs_27 : decode cX6_differs 27 = .ok (.iload_n 2, 1) := by decide +kernel
theorem dX6_differs_28 : decode cX6_differs 28 = .ok (.iconst 1, 1) := by decide +kernel
theorem dX6_differs_29 : decode cX6_differs 29 = .ok (.iadd, 1) := by decide +kernel
theorem dX6_differs_30 : decode cX6_differs 30 = .ok (.invokestatic 99, 3) := by decide +kernel
theorem dX6_differs_33 : decode cX6_differs 33 = .ok (.istore 4, 2) := by decide +kernel
theorem dX6_differs_35 : decode cX6_differs 35 = .ok (.iconst 0, 1) := by decide +kernel
theorem dX6_differs_36 : decode cX6_differs 36 = .ok (.istore 5, 2) := by decide +kernel
theorem dX6_differs_38 : decode cX6_differs 38 = .ok (.iload 5, 2) := by decide +kernel
theorem dX6_differs_40 : decode cX6_differs 40 = .ok (.sipush 3024, 3) := by decide +kernel
theorem dX6_differs_43 : decode cX6_differs 43 = .ok (.if_icmp .ge 148, 3) := by decide +kernel
theorem dX6_differs_46 : decode cX6_differs 46 = .ok (.aload_n 1, 1) := by decide +kernel
theorem dX6_differs_47 : decode cX6_differs 47 = .ok (.iload 5, 2) := by decide +kernel
theorem dX6_differs_49 : decode cX6_differs 49 = .ok (.laload, 1) := by decide +kernel
theorem dX6_differs_50 : decode cX6_differs 50 = .ok (.lconst 0, 1) := by decide +kernel
theorem dX6_differs_51 : decode cX6_differs 51 = .ok (.lcmp, 1) := by decide +kernel
theorem dX6_differs_52 : decode cX6_differs 52 = .ok (.ifCond .eq 133, 3) := by decide +kernel
theorem dX6_differs_55 : decode cX6_differs 55 = .ok (.iload 5, 2) := by decide +kernel
theorem dX6_differs_57 : decode cX6_differs 57 = .ok (.iload_n 2, 1) := by decide +kernel
theorem dX6_differs_58 : decode cX6_differs 58 = .ok (.invokestatic 103, 3) := by decide +kernel
theorem dX6_differs_61 : decode cX6_differs 61 = .ok (.istore 6, 2) := by decide +kernel
theorem dX6_differs_63 : decode cX6_differs 63 = .ok (.iload 5, 2) := by decide +kernel
theorem dX6_differs_65 : decode cX6_differs 65 = .ok (.iload_n 2, 1) := by decide +kernel
theorem dX6_differs_66 : decode cX6_differs 66 = .ok (.iconst 1, 1) := by decide +kernel
theorem dX6_differs_67 : decode cX6_differs 67 = .ok (.iadd, 1) := by decide +kernel
theorem dX6_differs_68 : decode cX6_differs 68 = .ok (.invokestatic 103, 3) := by decide +kernel
theorem dX6_differs_71 : decode cX6_differs 71 = .ok (.istore 7, 2) := by decide +kernel
theorem dX6_differs_73 : decode cX6_differs 73 = .ok (.iload 6, 2) := by decide +kernel
theorem dX6_differs_75 : decode cX6_differs 75 = .ok (.iload 7, 2) := by decide +kernel
theorem dX6_differs_77 : decode cX6_differs 77 = .ok (.if_icmp .ge 8, 3) := by decide +kernel
theorem dX6_differs_80 : decode cX6_differs 80 = .ok (.iload 6, 2) := by decide +kernel
theorem dX6_differs_82 : decode cX6_differs 82 = .ok (.goto 5, 3) := by decide +kernel
theorem dX6_differs_85 : decode cX6_differs 85 = .ok (.iload 7, 2) := by decide +kernel
theorem dX6_differs_87 : decode cX6_differs 87 = .ok (.istore 8, 2) := by decide +kernel
theorem dX6_differs_89 : decode cX6_differs 89 = .ok (.iload 6, 2) := by decide +kernel
theorem dX6_differs_91 : decode cX6_differs 91 = .ok (.iload 7, 2) := by decide +kernel
theorem dX6_differs_93 : decode cX6_differs 93 = .ok (.if_icmp .ge 8, 3) := by decide +kernel
theorem dX6_differs_96 : decode cX6_differs 96 = .ok (.iload 7, 2) := by decide +kernel
theorem dX6_differs_98 : decode cX6_differs 98 = .ok (.goto 5, 3) := by decide +kernel
theorem dX6_differs_101 : decode cX6_differs 101 = .ok (.iload 6, 2) := by decide +kernel
theorem dX6_differs_103 : decode cX6_differs 103 = .ok (.istore 9, 2) := by decide +kernel
theorem dX6_differs_105 : decode cX6_differs 105 = .ok (.iload 5, 2) := by decide +kernel
theorem dX6_differs_107 : decode cX6_differs 107 = .ok (.iload 6, 2) := by decide +kernel
theorem dX6_differs_109 : decode cX6_differs 109 = .ok (.iload_n 3, 1) := by decide +kernel
theorem dX6_differs_110 : decode cX6_differs 110 = .ok (.imul, 1) := by decide +kernel
theorem dX6_differs_111 : decode cX6_differs 111 = .ok (.isub, 1) := by decide +kernel
theorem dX6_differs_112 : decode cX6_differs 112 = .ok (.iload 7, 2) := by decide +kernel
theorem dX6_differs_114 : decode cX6_differs 114 = .ok (.iload 4, 2) := by decide +kernel
theorem dX6_differs_116 : decode cX6_differs 116 = .ok (.imul, 1) := by decide +kernel
theorem dX6_differs_117 : decode cX6_differs 117 = .ok (.isub, 1) := by decide +kernel
theorem dX6_differs_118 : decode cX6_differs 118 = .ok (.istore 10, 2) := by decide +kernel
theorem dX6_differs_120 : decode cX6_differs 120 = .ok (.iload 8, 2) := by decide +kernel
theorem dX6_differs_122 : decode cX6_differs 122 = .ok (.istore 11, 2) := by decide +kernel
theorem dX6_differs_124 : decode cX6_differs 124 = .ok (.iload 11, 2) := by decide +kernel
theorem dX6_differs_126 : decode cX6_differs 126 = .ok (.iload 9, 2) := by decide +kernel
theorem dX6_differs_128 : decode cX6_differs 128 = .ok (.if_icmp .ge 57, 3) := by decide +kernel
theorem dX6_differs_131 : decode cX6_differs 131 = .ok (.aload_n 0, 1) := by decide +kernel
theorem dX6_differs_132 : decode cX6_differs 132 = .ok (.getfield 26, 3) := by decide +kernel
theorem dX6_differs_135 : decode cX6_differs 135 = .ok (.iload 10, 2) := by decide +kernel
theorem dX6_differs_137 : decode cX6_differs 137 = .ok (.iload 11, 2) := by decide +kernel
theorem dX6_differs_139 : decode cX6_differs 139 = .ok (.iload_n 3, 1) := by decide +kernel
theorem dX6_differs_140 : decode cX6_differs 140 = .ok (.imul, 1) := by decide +kernel
theorem dX6_differs_141 : decode cX6_differs 141 = .ok (.iadd, 1) := by decide +kernel
theorem dX6_differs_142 : decode cX6_differs 142 = .ok (.iload 9, 2) := by decide +kernel
theorem dX6_differs_144 : decode cX6_differs 144 = .ok (.iload 8, 2) := by decide +kernel
theorem dX6_differs_146 : decode cX6_differs 146 = .ok (.iadd, 1) := by decide +kernel
theorem dX6_differs_147 : decode cX6_differs 147 = .ok (.iconst 1, 1) := by decide +kernel
theorem dX6_differs_148 : decode cX6_differs 148 = .ok (.isub, 1) := by decide +kernel
theorem dX6_differs_149 : decode cX6_differs 149 = .ok (.iload 11, 2) := by decide +kernel
theorem dX6_differs_151 : decode cX6_differs 151 = .ok (.isub, 1) := by decide +kernel
theorem dX6_differs_152 : decode cX6_differs 152 = .ok (.iload 4, 2) := by decide +kernel
theorem dX6_differs_154 : decode cX6_differs 154 = .ok (.imul, 1) := by decide +kernel
theorem dX6_differs_155 : decode cX6_differs 155 = .ok (.iadd, 1) := by decide +kernel
theorem dX6_differs_156 : decode cX6_differs 156 = .ok (.dup2, 1) := by decide +kernel
theorem dX6_differs_157 : decode cX6_differs 157 = .ok (.laload, 1) := by decide +kernel
theorem dX6_differs_158 : decode cX6_differs 158 = .ok (.iload 6, 2) := by decide +kernel
theorem dX6_differs_160 : decode cX6_differs 160 = .ok (.iload 7, 2) := by decide +kernel
theorem dX6_differs_162 : decode cX6_differs 162 = .ok (.if_icmp .le 10, 3) := by decide +kernel
theorem dX6_differs_165 : decode cX6_differs 165 = .ok (.aload_n 1, 1) := by decide +kernel
theorem dX6_differs_166 : decode cX6_differs 166 = .ok (.iload 5, 2) := by decide +kernel
theorem dX6_differs_168 : decode cX6_differs 168 = .ok (.laload, 1) := by decide +kernel
theorem dX6_differs_169 : decode cX6_differs 169 = .ok (.goto 8, 3) := by decide +kernel
theorem dX6_differs_172 : decode cX6_differs 172 = .ok (.aload_n 1, 1) := by decide +kernel
theorem dX6_differs_173 : decode cX6_differs 173 = .ok (.iload 5, 2) := by decide +kernel
theorem dX6_differs_175 : decode cX6_differs 175 = .ok (.laload, 1) := by decide +kernel
theorem dX6_differs_176 : decode cX6_differs 176 = .ok (.lneg, 1) := by decide +kernel
theorem dX6_differs_177 : decode cX6_differs 177 = .ok (.ladd, 1) := by decide +kernel
theorem dX6_differs_178 : decode cX6_differs 178 = .ok (.lastore, 1) := by decide +kernel
theorem dX6_differs_179 : decode cX6_differs 179 = .ok (.iinc 11 1, 3) := by decide +kernel
theorem dX6_differs_182 : decode cX6_differs 182 = .ok (.goto (-58), 3) := by decide +kernel
theorem dX6_differs_185 : decode cX6_differs 185 = .ok (.iinc 5 1, 3) := by decide +kernel
theorem dX6_differs_188 : decode cX6_differs 188 = .ok (.goto (-150), 3) := by decide +kernel
theorem dX6_differs_191 : decode cX6_differs 191 = .ok (.iconst 0, 1) := by decide +kernel
theorem dX6_differs_192 : decode cX6_differs 192 = .ok (.istore 5, 2) := by decide +kernel
theorem dX6_differs_194 : decode cX6_differs 194 = .ok (.iload 5, 2) := by decide +kernel
theorem dX6_differs_196 : decode cX6_differs 196 = .ok (.sipush 3024, 3) := by decide +kernel
theorem dX6_differs_199 : decode cX6_differs 199 = .ok (.if_icmp .ge 20, 3) := by decide +kernel
theorem dX6_differs_202 : decode cX6_differs 202 = .ok (.aload_n 1, 1) := by decide +kernel
theorem dX6_differs_203 : decode cX6_differs 203 = .ok (.iload 5, 2) := by decide +kernel
theorem dX6_differs_205 : decode cX6_differs 205 = .ok (.aload_n 0, 1) := by decide +kernel
theorem dX6_differs_206 : decode cX6_differs 206 = .ok (.getfield 26, 3) := by decide +kernel
theorem dX6_differs_209 : decode cX6_differs 209 = .ok (.iload 5, 2) := by decide +kernel
theorem dX6_differs_211 : decode cX6_differs 211 = .ok (.laload, 1) := by decide +kernel
theorem dX6_differs_212 : decode cX6_differs 212 = .ok (.lastore, 1) := by decide +kernel
theorem dX6_differs_213 : decode cX6_differs 213 = .ok (.iinc 5 1, 3) := by decide +kernel
theorem dX6_differs_216 : decode cX6_differs 216 = .ok (.goto (-22), 3) := by decide +kernel
theorem dX6_differs_219 : decode cX6_differs 219 = .ok (.return_, 1) := by decide +kernel
set_option maxRecDepth 20000 in
theorem ggX6_findS_X6_codeAt : GoodIn wsX6_findS wsX6_codeAt := goodIn_r _ [6] (by decide +kernel) (by decide +kernel)
set_option maxRecDepth 20000 in
theorem gX6_findS_X6_codeAt : GoodIn wsX6_findS (va_wsS RX6 55 yX6_codeAt wsX6_codeAt) := goodIn_app (goodIn_of _ (by decide +kernel)) ggX6_findS_X6_codeAt
set_option maxRecDepth 20000 in
theorem ggX6_findS_X6_exchange : GoodIn wsX6_findS wsX6_exchange := goodIn_r _ [9] (by decide +kernel) (by decide +kernel)
set_option maxRecDepth 20000 in
theorem gX6_findS_X6_exchange : GoodIn wsX6_findS (va_wsS RX6 85 yX6_exchange wsX6_exchange) := goodIn_app (goodIn_of _ (by decide +kernel)) ggX6_findS_X6_exchange
set_option maxRecDepth 20000 in
theorem ggX6_findS_X6_cellOf : GoodIn wsX6_findS wsX6_cellOf := goodIn_r _ [12] (by decide +kernel) (by decide +kernel)
set_option maxRecDepth 20000 in
theorem gX6_findS_X6_cellOf : GoodIn wsX6_findS (va_wsS RX6 107 yX6_cellOf wsX6_cellOf) := goodIn_app (goodIn_of _ (by decide +kernel)) ggX6_findS_X6_cellOf
set_option maxRecDepth 20000 in
theorem ggX6_findS_X6_differs : GoodIn wsX6_findS wsX6_differs := goodIn_r _ [16, 17, 18, 19, 5, 20, 21, 22, 23, 24, 25, 26, 27, 28, 29, 30, 31, 32, 33, 34, 35, 36, 37, 38, 39] (by decide +kernel) (by decide +kernel)
set_option maxRecDepth 20000 in
theorem gX6_findS_X6_differs : GoodIn wsX6_findS (wsV RX6 111 RX6 yX6_differs wsX6_differs) := goodIn_app (goodIn_of _ (by decide +kernel)) ggX6_findS_X6_differs
theorem dX6_findS_0 : decode cX6_findS 0 = .ok (.iconst 0, 1) := by decide +kernel
theorem dX6_findS_1 : decode cX6_findS 1 = .ok (.istore_n 2, 1) := by decide +kernel
theorem dX6_findS_2 : decode cX6_findS 2 = .ok (.iconst 1, 1) := by decide +kernel
theorem dX6_findS_3 : decode cX6_findS 3 = .ok (.istore_n 3, 1) := by decide +kernel
theorem dX6_findS_4 : decode cX6_findS 4 = .ok (.iload_n 3, 1) := by decide +kernel
theorem dX6_findS_5 : decode cX6_findS 5 = .ok (.iconst 4, 1) := by decide +kernel
theorem dX6_findS_6 : decode cX6_findS 6 = .ok (.if_icmp .ge 47, 3) := by decide +kernel
theorem dX6_findS_9 : decode cX6_findS 9 = .ok (.aload_n 1, 1) := by decide +kernel
theorem dX6_findS_10 : decode cX6_findS 10 = .ok (.iload_n 3, 1) := by decide +kernel
theorem dX6_findS_11 : decode cX6_findS 11 = .ok (.invokestatic 55, 3) := by decide +kernel
theorem dX6_findS_14 : decode cX6_findS 14 = .ok (.aload_n 1, 1) := by decide +kernel
theorem dX6_findS_15 : decode cX6_findS 15 = .ok (.iload_n 3, 1) := by decide +kernel
theorem dX6_findS_16 : decode cX6_findS 16 = .ok (.iconst 1, 1) := by decide +kernel
theorem dX6_findS_17 : decode cX6_findS 17 = .ok (.iadd, 1) := by decide +kernel
theorem dX6_findS_18 : decode cX6_findS 18 = .ok (.invokestatic 55, 3) := by decide +kernel
theorem dX6_findS_21 : decode cX6_findS 21 = .ok (.if_icmp .ge 26, 3) := by decide +kernel
theorem dX6_findS_24 : decode cX6_findS 24 = .ok (.aload_n 1, 1) := by decide +kernel
theorem dX6_findS_25 : decode cX6_findS 25 = .ok (.iload_n 3, 1) := by decide +kernel
theorem dX6_findS_26 : decode cX6_findS 26 = .ok (.iload_n 3, 1) := by decide +kernel
theorem dX6_findS_27 : decode cX6_findS 27 = .ok (.iconst 1, 1) := by decide +kernel
theorem dX6_findS_28 : decode cX6_findS 28 = .ok (.iadd, 1) := by decide +kernel
theorem dX6_findS_29 : decode cX6_findS 29 = .ok (.invokestatic 85, 3) := by decide +kernel
theorem dX6_findS_32 : decode cX6_findS 32 = .ok (.aload_n 0, 1) := by decide +kernel
theorem dX6_findS_33 : decode cX6_findS 33 = .ok (.getfield 29, 3) := by decide +kernel
theorem dX6_findS_36 : decode cX6_findS 36 = .ok (.iload_n 2, 1) := by decide +kernel
theorem dX6_findS_37 : decode cX6_findS 37 = .ok (.iload_n 3, 1) := by decide +kernel
theorem dX6_findS_38 : decode cX6_findS 38 = .ok (.iastore, 1) := by decide +kernel
theorem dX6_findS_39 : decode cX6_findS 39 = .ok (.iinc 2 1, 3) := by decide +kernel
theorem dX6_findS_42 : decode cX6_findS 42 = .ok (.iconst 1, 1) := by decide +kernel
theorem dX6_findS_43 : decode cX6_findS 43 = .ok (.istore_n 3, 1) := by decide +kernel
theorem dX6_findS_44 : decode cX6_findS 44 = .ok (.goto (-40), 3) := by decide +kernel
theorem dX6_findS_47 : decode cX6_findS 47 = .ok (.iinc 3 1, 3) := by decide +kernel
theorem dX6_findS_50 : decode cX6_findS 50 = .ok (.goto (-46), 3) := by decide +kernel
theorem dX6_findS_53 : decode cX6_findS 53 = .ok (.iconst 0, 1) := by decide +kernel
theorem dX6_findS_54 : decode cX6_findS 54 = .ok (.istore 4, 2) := by decide +kernel
theorem dX6_findS_56 : decode cX6_findS 56 = .ok (.iload 4, 2) := by decide +kernel
theorem dX6_findS_58 : decode cX6_findS 58 = .ok (.sipush 3024, 3) := by decide +kernel
theorem dX6_findS_61 : decode cX6_findS 61 = .ok (.if_icmp .ge 17, 3) := by decide +kernel
theorem dX6_findS_64 : decode cX6_findS 64 = .ok (.aload_n 0, 1) := by decide +kernel
theorem dX6_findS_65 : decode cX6_findS 65 = .ok (.getfield 22, 3) := by decide +kernel
theorem dX6_findS_68 : decode cX6_findS 68 = .ok (.iload 4, 2) := by decide +kernel
theorem dX6_findS_70 : decode cX6_findS 70 = .ok (.lconst 0, 1) := by decide +kernel
theorem dX6_findS_71 : decode cX6_findS 71 = .ok (.lastore, 1) := by decide +kernel
theorem dX6_findS_72 : decode cX6_findS 72 = .ok (.iinc 4 1, 3) := by decide +kernel
theorem dX6_findS_75 : decode cX6_findS 75 = .ok (.goto (-19), 3) := by decide +kernel
theorem dX6_findS_78 : decode cX6_findS 78 = .ok (.aload_n 0, 1) := by decide +kernel
theorem dX6_findS_79 : decode cX6_findS 79 = .ok (.getfield 22, 3) := by decide +kernel
theorem dX6_findS_82 : decode cX6_findS 82 = .ok (.aload_n 1, 1) := by decide +kernel
theorem dX6_findS_83 : decode cX6_findS 83 = .ok (.iconst 1, 1) := by decide +kernel
theorem dX6_findS_84 : decode cX6_findS 84 = .ok (.invokestatic 55, 3) := by decide +kernel
theorem dX6_findS_87 : decode cX6_findS 87 = .ok (.aload_n 1, 1) := by decide +kernel
theorem dX6_findS_88 : decode cX6_findS 88 = .ok (.iconst 2, 1) := by decide +kernel
theorem dX6_findS_89 : decode cX6_findS 89 = .ok (.invokestatic 55, 3) := by decide +kernel
theorem dX6_findS_92 : decode cX6_findS 92 = .ok (.aload_n 1, 1) := by decide +kernel
theorem dX6_findS_93 : decode cX6_findS 93 = .ok (.iconst 3, 1) := by decide +kernel
theorem dX6_findS_94 : decode cX6_findS 94 = .ok (.invokestatic 55, 3) := by decide +kernel
theorem dX6_findS_97 : decode cX6_findS 97 = .ok (.aload_n 1, 1) := by decide +kernel
theorem dX6_findS_98 : decode cX6_findS 98 = .ok (.iconst 4, 1) := by decide +kernel
theorem dX6_findS_99 : decode cX6_findS 99 = .ok (.invokestatic 55, 3) := by decide +kernel
theorem dX6_findS_102 : decode cX6_findS 102 = .ok (.invokestatic 107, 3) := by decide +kernel
theorem dX6_findS_105 : decode cX6_findS 105 = .ok (.lconst 1, 1) := by decide +kernel
theorem dX6_findS_106 : decode cX6_findS 106 = .ok (.lastore, 1) := by decide +kernel
theorem dX6_findS_107 : decode cX6_findS 107 = .ok (.iload_n 2, 1) := by decide +kernel
theorem dX6_findS_108 : decode cX6_findS 108 = .ok (.iconst 1, 1) := by decide +kernel
theorem dX6_findS_109 : decode cX6_findS 109 = .ok (.isub, 1) := by decide +kernel
theorem dX6_findS_110 : decode cX6_findS 110 = .ok (.istore 4, 2) := by decide +kernel
theorem dX6_findS_112 : decode cX6_findS 112 = .ok (.iload 4, 2) := by decide +kernel
theorem dX6_findS_114 : decode cX6_findS 114 = .ok (.ifCond .lt 24, 3) := by decide +kernel
theorem dX6_findS_117 : decode cX6_findS 117 = .ok (.aload_n 0, 1) := by decide +kernel
theorem dX6_findS_118 : decode cX6_findS 118 = .ok (.aload_n 0, 1) := by decide +kernel
theorem dX6_findS_119 : decode cX6_findS 119 = .ok (.getfield 22, 3) := by decide +kernel
theorem dX6_findS_122 : decode cX6_findS 122 = .ok (.aload_n 0, 1) := by decide +kernel
theorem dX6_findS_123 : decode cX6_findS 123 = .ok (.getfield 29, 3) := by decide +kernel
theorem dX6_findS_126 : decode cX6_findS 126 = .ok (.iload 4, 2) := by decide +kernel
theorem dX6_findS_128 : decode cX6_findS 128 = .ok (.iaload, 1) := by decide +kernel
theorem dX6_findS_129 : decode cX6_findS 129 = .ok (.invokevirtual 111, 3) := by decide +kernel
theorem dX6_findS_132 : decode cX6_findS 132 = .ok (.iinc 4 (-1), 3) := by decide +kernel
theorem dX6_findS_135 : decode cX6_findS 135 = .ok (.goto (-23), 3) := by decide +kernel
theorem dX6_findS_138 : decode cX6_findS 138 = .ok (.return_, 1) := by decide +kernel
theorem dX6_termsOf_0 : decode cX6_termsOf 0 = .ok (.iconst 0, 1) := by decide +kernel
theorem dX6_termsOf_1 : decode cX6_termsOf 1 = .ok (.istore_n 1, 1) := by decide +kernel
theorem dX6_termsOf_2 : decode cX6_termsOf 2 = .ok (.iconst 0, 1) := by decide +kernel
theorem dX6_termsOf_3 : decode cX6_termsOf 3 = .ok (.istore_n 2, 1) := by decide +kernel
theorem dX6_termsOf_4 : decode cX6_termsOf 4 = .ok (.iload_n 2, 1) := by decide +kernel
theorem dX6_termsOf_5 : decode cX6_termsOf 5 = .ok (.sipush 3024, 3) := by decide +kernel
theorem dX6_termsOf_8 : decode cX6_termsOf 8 = .ok (.if_icmp .ge 25, 3) := by decide +kernel
theorem dX6_termsOf_11 : decode cX6_termsOf 11 = .ok (.iload_n 1, 1) := by decide +kernel
theorem dX6_termsOf_12 : decode cX6_termsOf 12 = .ok (.aload_n 0, 1) := by decide +kernel
theorem dX6_termsOf_13 : decode cX6_termsOf 13 = .ok (.iload_n 2, 1) := by decide +kernel
theorem dX6_termsOf_14 : decode cX6_termsOf 14 = .ok (.laload, 1) := by decide +kernel
theorem dX6_termsOf_15 : decode cX6_termsOf 15 = .ok (.lconst 0, 1) := by decide +kernel
theorem dX6_termsOf_16 : decode cX6_termsOf 16 = .ok (.lcmp, 1) := by decide +kernel
theorem dX6_termsOf_17 : decode cX6_termsOf 17 = .ok (.ifCond .eq 7, 3) := by decide +kernel
theorem dX6_termsOf_20 : decode cX6_termsOf 20 = .ok (.iconst 1, 1) := by decide +kernel
theorem dX6_termsOf_21 : decode cX6_termsOf 21 = .ok (.goto 4, 3) := by decide +kernel
theorem dX6_termsOf_24 : decode cX6_termsOf 24 = .ok (.iconst 0, 1) := by decide +kernel
theorem dX6_termsOf_25 : decode cX6_termsOf 25 = .ok (.iadd, 1) := by decide +kernel
theorem dX6_termsOf_26 : decode cX6_termsOf 26 = .ok (.istore_n 1, 1) := by decide +kernel
theorem dX6_termsOf_27 : decode cX6_termsOf 27 = .ok (.iinc 2 1, 3) := by decide +kernel
theorem dX6_termsOf_30 : decode cX6_termsOf 30 = .ok (.goto (-26), 3) := by decide +kernel
theorem dX6_termsOf_33 : decode cX6_termsOf 33 = .ok (.iload_n 1, 1) := by decide +kernel
theorem dX6_termsOf_34 : decode cX6_termsOf 34 = .ok (.ireturn, 1) := by decide +kernel
set_option maxRecDepth 20000 in
theorem ggX6_number_X6_lays : GoodIn wsX6_number wsX6_lays := goodIn_r _ [6, 7, 8, 5, 9] (by decide +kernel) (by decide +kernel)
set_option maxRecDepth 20000 in
theorem gX6_number_X6_lays : GoodIn wsX6_number (va_wsS RX6 63 yX6_lays wsX6_lays) := goodIn_app (goodIn_of _ (by decide +kernel)) ggX6_number_X6_lays
set_option maxRecDepth 20000 in
theorem ggX6_number_X6_isFit : GoodIn wsX6_number wsX6_isFit := goodIn_r _ [12, 13, 14, 5, 15] (by decide +kernel) (by decide +kernel)
set_option maxRecDepth 20000 in
theorem gX6_number_X6_isFit : GoodIn wsX6_number (va_wsS RX6 115 yX6_isFit wsX6_isFit) := goodIn_app (goodIn_of _ (by decide +kernel)) ggX6_number_X6_isFit
set_option maxRecDepth 20000 in
theorem ggX6_number_X6_findS : GoodIn wsX6_number wsX6_findS := goodIn_r _ [19, 20, 2, 21, 22, 5, 23, 24, 25, 26, 27, 28, 29, 30, 31, 32, 33, 34, 35, 36, 37, 38, 39, 40, 44, 45, 46, 47, 48, 49, 50, 51, 52, 53, 54, 55, 56, 57, 58, 59] (by decide +kernel) (by decide +kernel)
set_option maxRecDepth 20000 in
theorem gX6_number_X6_findS : GoodIn wsX6_number (wsV RX6 118 RX6 yX6_findS wsX6_findS) := goodIn_app (goodIn_of _ (by decide +kernel)) ggX6_number_X6_findS
set_option maxRecDepth 20000 in
theorem ggX6_number_X6_isCell : GoodIn wsX6_number wsX6_isCell := goodIn_r _ [43, 7, 8, 5, 9] (by decide +kernel) (by decide +kernel)
set_option maxRecDepth 20000 in
theorem gX6_number_X6_isCell : GoodIn wsX6_number (va_wsS RX6 122 yX6_isCell wsX6_isCell) := goodIn_app (goodIn_of _ (by decide +kernel)) ggX6_number_X6_isCell
set_option maxRecDepth 20000 in
theorem ggX6_number_X6_cellOf : GoodIn wsX6_number wsX6_cellOf := goodIn_r _ [29] (by decide +kernel) (by decide +kernel)
set_option maxRecDepth 20000 in
theorem gX6_number_X6_cellOf : GoodIn wsX6_number (va_wsS RX6 107 yX6_cellOf wsX6_cellOf) := goodIn_app (goodIn_of _ (by decide +kernel)) ggX6_number_X6_cellOf
theorem dX6_number_0 : decode cX6_number 0 = .ok (.iload_n 1, 1) := by decide +kernel
theorem dX6_number_1 : decode cX6_number 1 = .ok (.aload_n 0, 1) := by decide +kernel
theorem dX6_number_2 : decode cX6_number 2 = .ok (.getfield 7, 3) := by decide +kernel
theorem dX6_number_5 : decode cX6_number 5 = .ok (.invokestatic 63, 3) := by decide +kernel
theorem dX6_number_8 : decode cX6_number 8 = .ok (.ifCond .eq 21, 3) := by decide +kernel
theorem dX6_number_11 : decode cX6_number 11 = .ok (.iload_n 2, 1) := by decide +kernel
theorem dX6_number_12 : decode cX6_number 12 = .ok (.ifCond .lt 17, 3) := by decide +kernel
theorem dX6_number_15 : decode cX6_number 15 = .ok (.iload_n 3, 1) := by decide +kernel
theorem dX6_number_16 : decode cX6_number 16 = .ok (.ifCond .lt 13, 3) := by decide +kernel
theorem dX6_number_19 : decode cX6_number 19 = .ok (.iload 4, 2) := by decide +kernel
theorem dX6_number_21 : decode cX6_number 21 = .ok (.ifCond .lt 8, 3) := by decide +kernel
theorem dX6_number_24 : decode cX6_number 24 = .ok (.iload 5, 2) := by decide +kernel
theorem dX6_number_26 : decode cX6_number 26 = .ok (.ifCond .ge 6, 3) := by decide +kernel
theorem dX6_number_29 : decode cX6_number 29 = .ok (.bipush (-2), 2) := by decide +kernel
theorem dX6_number_31 : decode cX6_number 31 = .ok (.ireturn, 1) := by decide +kernel
theorem dX6_number_32 : decode cX6_number 32 = .ok (.aload_n 0, 1) := by decide +kernel
theorem dX6_number_33 : decode cX6_number 33 = .ok (.getfield 7, 3) := by decide +kernel
theorem dX6_number_36 : decode cX6_number 36 = .ok (.invokestatic 115, 3) := by decide +kernel
theorem dX6_number_39 : decode cX6_number 39 = .ok (.ifCond .ne 6, 3) := by decide +kernel
theorem dX6_number_42 : decode cX6_number 42 = .ok (.bipush (-3), 2) := by decide +kernel
theorem dX6_number_44 : decode cX6_number 44 = .ok (.ireturn, 1) := by decide +kernel
theorem dX6_number_45 : decode cX6_number 45 = .ok (.aload_n 0, 1) := by decide +kernel
theorem dX6_number_46 : decode cX6_number 46 = .ok (.aload_n 0, 1) := by decide +kernel
theorem dX6_number_47 : decode cX6_number 47 = .ok (.getfield 7, 3) := by decide +kernel
theorem dX6_number_50 : decode cX6_number 50 = .ok (.invokevirtual 118, 3) := by decide +kernel
theorem dX6_number_53 : decode cX6_number 53 = .ok (.iload_n 2, 1) := by decide +kernel
theorem dX6_number_54 : decode cX6_number 54 = .ok (.iload_n 3, 1) := by decide +kernel
theorem dX6_number_55 : decode cX6_number 55 = .ok (.iload 4, 2) := by decide +kernel
theorem dX6_number_57 : decode cX6_number 57 = .ok (.iload 5, 2) := by decide +kernel
theorem dX6_number_59 : decode cX6_number 59 = .ok (.invokestatic 122, 3) := by decide +kernel
theorem dX6_number_62 : decode cX6_number 62 = .ok (.ifCond .eq 21, 3) := by decide +kernel
theorem dX6_number_65 : decode cX6_number 65 = .ok (.aload_n 0, 1) := by decide +kernel
theorem dX6_number_66 : decode cX6_number 66 = .ok (.getfield 22, 3) := by decide +kernel
theorem dX6_number_69 : decode cX6_number 69 = .ok (.iload_n 2, 1) := by decide +kernel
theorem dX6_number_70 : decode cX6_number 70 = .ok (.iload_n 3, 1) := by decide +kernel
theorem dX6_number_71 : decode cX6_number 71 = .ok (.iload 4, 2) := by decide +kernel
theorem dX6_number_73 : decode cX6_number 73 = .ok (.iload 5, 2) := by decide +kernel
theorem dX6_number_75 : decode cX6_number 75 = .ok (.invokestatic 107, 3) := by decide +kernel
theorem dX6_number_78 : decode cX6_number 78 = .ok (.laload, 1) := by decide +kernel
theorem dX6_number_79 : decode cX6_number 79 = .ok (.l2i, 1) := by decide +kernel
theorem dX6_number_80 : decode cX6_number 80 = .ok (.goto 4, 3) := by decide +kernel
theorem dX6_number_83 : decode cX6_number 83 = .ok (.iconst 0, 1) := by decide +kernel
theorem dX6_number_84 : decode cX6_number 84 = .ok (.ireturn, 1) := by decide +kernel
set_option maxRecDepth 20000 in
theorem ggX6_terms_X6_lays : GoodIn wsX6_terms wsX6_lays := goodIn_r _ [6, 7, 8, 5, 9] (by decide +kernel) (by decide +kernel)
set_option maxRecDepth 20000 in
theorem gX6_terms_X6_lays : GoodIn wsX6_terms (va_wsS RX6 63 yX6_lays wsX6_lays) := goodIn_app (goodIn_of _ (by decide +kernel)) ggX6_terms_X6_lays
set_option maxRecDepth 20000 in
theorem ggX6_terms_X6_isFit : GoodIn wsX6_terms wsX6_isFit := goodIn_r _ [12, 13, 14, 5, 15] (by decide +kernel) (by decide +kernel)
set_option maxRecDepth 20000 in
theorem gX6_terms_X6_isFit : GoodIn wsX6_terms (va_wsS RX6 115 yX6_isFit wsX6_isFit) := goodIn_app (goodIn_of _ (by decide +kernel)) ggX6_terms_X6_isFit
set_option maxRecDepth 20000 in
theorem ggX6_terms_X6_findS : GoodIn wsX6_terms wsX6_findS := goodIn_r _ [19, 20, 2, 21, 22, 5, 23, 24, 25, 26, 27, 28, 29, 30, 31, 32, 33, 34, 35, 36, 37, 38, 39, 40, 44, 45, 46, 47, 48, 49, 50, 51, 52, 53, 54, 55, 56, 57, 58, 59] (by decide +kernel) (by decide +kernel)
set_option maxRecDepth 20000 in
theorem gX6_terms_X6_findS : GoodIn wsX6_terms (wsV RX6 118 RX6 yX6_findS wsX6_findS) := goodIn_app (goodIn_of _ (by decide +kernel)) ggX6_terms_X6_findS
set_option maxRecDepth 20000 in
theorem ggX6_terms_X6_termsOf : GoodIn wsX6_terms wsX6_termsOf := goodIn_r _ [43] (by decide +kernel) (by decide +kernel)
set_option maxRecDepth 20000 in
theorem gX6_terms_X6_termsOf : GoodIn wsX6_terms (va_wsS RX6 126 yX6_termsOf wsX6_termsOf) := goodIn_app (goodIn_of _ (by decide +kernel)) ggX6_terms_X6_termsOf
theorem dX6_terms_0 : decode cX6_terms 0 = .ok (.iload_n 1, 1) := by decide +kernel
theorem dX6_terms_1 : decode cX6_terms 1 = .ok (.aload_n 0, 1) := by decide +kernel
theorem dX6_terms_2 : decode cX6_terms 2 = .ok (.getfield 7, 3) := by decide +kernel
theorem dX6_terms_5 : decode cX6_terms 5 = .ok (.invokestatic 63, 3) := by decide +kernel
theorem dX6_terms_8 : decode cX6_terms 8 = .ok (.ifCond .ne 6, 3) := by decide +kernel
theorem dX6_terms_11 : decode cX6_terms 11 = .ok (.bipush (-2), 2) := by decide +kernel
theorem dX6_terms_13 : decode cX6_terms 13 = .ok (.ireturn, 1) := by decide +kernel
theorem dX6_terms_14 : decode cX6_terms 14 = .ok (.aload_n 0, 1) := by decide +kernel
theorem dX6_terms_15 : decode cX6_terms 15 = .ok (.getfield 7, 3) := by decide +kernel
theorem dX6_terms_18 : decode cX6_terms 18 = .ok (.invokestatic 115, 3) := by decide +kernel
theorem dX6_terms_21 : decode cX6_terms 21 = .ok (.ifCond .ne 6, 3) := by decide +kernel
theorem dX6_terms_24 : decode cX6_terms 24 = .ok (.bipush (-3), 2) := by decide +kernel
theorem dX6_terms_26 : decode cX6_terms 26 = .ok (.ireturn, 1) := by decide +kernel
theorem dX6_terms_27 : decode cX6_terms 27 = .ok (.aload_n 0, 1) := by decide +kernel
theorem dX6_terms_28 : decode cX6_terms 28 = .ok (.aload_n 0, 1) := by decide +kernel
theorem dX6_terms_29 : decode cX6_terms 29 = .ok (.getfield 7, 3) := by decide +kernel
theorem dX6_terms_32 : decode cX6_terms 32 = .ok (.invokevirtual 118, 3) := by decide +kernel
theorem dX6_terms_35 : decode cX6_terms 35 = .ok (.aload_n 0, 1) := by decide +kernel
theorem dX6_terms_36 : decode cX6_terms 36 = .ok (.getfield 22, 3) := by decide +kernel
theorem dX6_terms_39 : decode cX6_terms 39 = .ok (.invokestatic 126, 3) := by decide +kernel
theorem dX6_terms_42 : decode cX6_terms 42 = .ok (.ireturn, 1) := by decide +kernel
theorem dX6_power_0 : decode cX6_power 0 = .ok (.lconst 1, 1) := by decide +kernel
theorem dX6_power_1 : decode cX6_power 1 = .ok (.lstore_n 2, 1) := by decide +kernel
theorem dX6_power_2 : decode cX6_power 2 = .ok (.iconst 0, 1) := by decide +kernel
theorem dX6_power_3 : decode cX6_power 3 = .ok (.istore 4, 2) := by decide +kernel
theorem dX6_power_5 : decode cX6_power 5 = .ok (.iload 4, 2) := by decide +kernel
theorem dX6_power_7 : decode cX6_power 7 = .ok (.iload_n 1, 1) := by decide +kernel
theorem dX6_power_8 : decode cX6_power 8 = .ok (.if_icmp .ge 14, 3) := by decide +kernel
theorem dX6_power_11 : decode cX6_power 11 = .ok (.lload_n 2, 1) := by decide +kernel
theorem dX6_power_12 : decode cX6_power 12 = .ok (.iload_n 0, 1) := by decide +kernel
theorem dX6_power_13 : decode cX6_power 13 = .ok (.i2l, 1) := by decide +kernel
theorem dX6_power_14 : decode cX6_power 14 = .ok (.lmul, 1) := by decide +kernel
theorem dX6_power_15 : decode cX6_power 15 = .ok (.lstore_n 2, 1) := by decide +kernel
theorem dX6_power_16 : decode cX6_power 16 = .ok (.iinc 4 1, 3) := by decide +kernel
theorem dX6_power_19 : decode cX6_power 19 = .ok (.goto (-14), 3) := by decide +kernel
theorem dX6_power_22 : decode cX6_power 22 = .ok (.lload_n 2, 1) := by decide +kernel
theorem dX6_power_23 : decode cX6_power 23 = .ok (.lreturn, 1) := by decide +kernel
set_option maxRecDepth 20000 in
theorem ggX6_isX_X6_within : GoodIn wsX6_isX wsX6_within := goodIn_r _ [4] (by decide +kernel) (by decide +kernel)
set_option maxRecDepth 20000 in
theorem gX6_isX_X6_within : GoodIn wsX6_isX (va_wsS RX6 51 yX6_within wsX6_within) := goodIn_app (goodIn_of _ (by decide +kernel)) ggX6_isX_X6_within
theorem dX6_isX_0 : decode cX6_isX 0 = .ok (.iload_n 0, 1) := by decide +kernel
theorem dX6_isX_1 : decode cX6_isX 1 = .ok (.bipush (-3), 2) := by decide +kernel
theorem dX6_isX_3 : decode cX6_isX 3 = .ok (.iconst 3, 1) := by decide +kernel
theorem dX6_isX_4 : decode cX6_isX 4 = .ok (.invokestatic 51, 3) := by decide +kernel
theorem dX6_isX_7 : decode cX6_isX 7 = .ok (.ireturn, 1) := by decide +kernel
set_option maxRecDepth 20000 in
theorem ggX6_value_X6_lays : GoodIn wsX6_value wsX6_lays := goodIn_r _ [7, 8, 9, 6, 10] (by decide +kernel) (by decide +kernel)
set_option maxRecDepth 20000 in
theorem gX6_value_X6_lays : GoodIn wsX6_value (va_wsS RX6 63 yX6_lays wsX6_lays) := goodIn_app (goodIn_of _ (by decide +kernel)) ggX6_value_X6_lays
set_option maxRecDepth 20000 in
theorem ggX6_value_X6_isX : GoodIn wsX6_value wsX6_isX := goodIn_r _ [13, 8, 9, 6, 10] (by decide +kernel) (by decide +kernel)
set_option maxRecDepth 20000 in
theorem gX6_value_X6_isX : GoodIn wsX6_value (va_wsS RX6 130 yX6_isX wsX6_isX) := goodIn_app (goodIn_of _ (by decide +kernel)) ggX6_value_X6_isX
set_option maxRecDepth 20000 in
theorem ggX6_value_X6_isFit : GoodIn wsX6_value wsX6_isFit := goodIn_r _ [16, 17, 18, 6, 19] (by decide +kernel) (by decide +kernel)
set_option maxRecDepth 20000 in
theorem gX6_value_X6_isFit : GoodIn wsX6_value (va_wsS RX6 115 yX6_isFit wsX6_isFit) := goodIn_app (goodIn_of _ (by decide +kernel)) ggX6_value_X6_isFit
set_option maxRecDepth 20000 in
theorem ggX6_value_X6_findS : GoodIn wsX6_value wsX6_findS := goodIn_r _ [23, 24, 3, 25, 26, 6, 27, 28, 29, 30, 31, 32, 33, 34, 35, 36, 37, 38, 39, 40, 41, 42, 43, 44, 48, 49, 50, 51, 52, 53, 54, 55, 56, 57, 58, 59, 60, 61, 62, 63] (by decide +kernel) (by decide +kernel)
set_option maxRecDepth 20000 in
theorem gX6_value_X6_findS : GoodIn wsX6_value (wsV RX6 118 RX6 yX6_findS wsX6_findS) := goodIn_app (goodIn_of _ (by decide +kernel)) ggX6_value_X6_findS
set_option maxRecDepth 20000 in
theorem ggX6_value_X6_exponentAt : GoodIn wsX6_value wsX6_exponentAt := goodIn_r _ [44] (by decide +kernel) (by decide +kernel)
set_option maxRecDepth 20000 in
theorem gX6_value_X6_exponentAt : GoodIn wsX6_value (va_wsS RX6 103 yX6_exponentAt wsX6_exponentAt) := goodIn_app (goodIn_of _ (by decide +kernel)) ggX6_value_X6_exponentAt
set_option maxRecDepth 20000 in
theorem ggX6_value_X6_power : GoodIn wsX6_value wsX6_power := goodIn_r _ [47] (by decide +kernel) (by decide +kernel)
set_option maxRecDepth 20000 in
theorem gX6_value_X6_power : GoodIn wsX6_value (va_wsS RX6 136 yX6_power wsX6_power) := goodIn_app (goodIn_of _ (by decide +kernel)) ggX6_value_X6_power
theorem dX6_value_0 : decode cX6_value 0 = .ok (.iload_n 1, 1) := by decide +kernel
theorem dX6_value_1 : decode cX6_value 1 = .ok (.aload_n 0, 1) := by decide +kernel
theorem dX6_value_2 : decode cX6_value 2 = .ok (.getfield 7, 3) := by decide +kernel
theorem dX6_value_5 : decode cX6_value 5 = .ok (.invokestatic 63, 3) := by decide +kernel
theorem dX6_value_8 : decode cX6_value 8 = .ok (.ifCond .eq 43, 3) := by decide +kernel
theorem dX6_value_11 : decode cX6_value 11 = .ok (.iload_n 2, 1) := by decide +kernel
theorem dX6_value_12 : decode cX6_value 12 = .ok (.invokestatic 130, 3) := by decide +kernel
theorem dX6_value_15 : decode cX6_value 15 = .ok (.ifCond .eq 36, 3) := by decide +kernel
theorem dX6_value_18 : decode cX6_value 18 = .ok (.iload_n 3, 1) := by decide +kernel
theorem dX6_value_19 : decode cX6_value 19 = .ok (.invokestatic 130, 3) := by decide +kernel
theorem dX6_value_22 : decode cX6_value 22 = .ok (.ifCond .eq 29, 3) := by decide +kernel
theorem dX6_value_25 : decode cX6_value 25 = .ok (.iload 4, 2) := by decide +kernel
theorem dX6_value_27 : decode cX6_value 27 = .ok (.invokestatic 130, 3) := by decide +kernel
theorem dX6_value_30 : decode cX6_value 30 = .ok (.ifCond .eq 21, 3) := by decide +kernel
theorem dX6_value_33 : decode cX6_value 33 = .ok (.iload 5, 2) := by decide +kernel
theorem dX6_value_35 : decode cX6_value 35 = .ok (.invokestatic 130, 3) := by decide +kernel
theorem dX6_value_38 : decode cX6_value 38 = .ok (.ifCond .eq 13, 3) := by decide +kernel
theorem dX6_value_41 : decode cX6_value 41 = .ok (.aload_n 0, 1) := by decide +kernel
theorem dX6_value_42 : decode cX6_value 42 = .ok (.getfield 7, 3) := by decide +kernel
theorem dX6_value_45 : decode cX6_value 45 = .ok (.invokestatic 115, 3) := by decide +kernel
theorem dX6_value_48 : decode cX6_value 48 = .ok (.ifCond .ne 7, 3) := by decide +kernel
theorem dX6_value_51 : decode cX6_value 51 = .ok (.ldc2_w 134, 3) := by decide +kernel
theorem dX6_value_54 : decode cX6_value 54 = .ok (.lreturn, 1) := by decide +kernel
theorem dX6_value_55 : decode cX6_value 55 = .ok (.aload_n 0, 1) := by decide +kernel
theorem dX6_value_56 : decode cX6_value 56 = .ok (.aload_n 0, 1) := by decide +kernel
theorem dX6_value_57 : decode cX6_value 57 = .ok (.getfield 7, 3) := by decide +kernel
theorem dX6_value_60 : decode cX6_value 60 = .ok (.invokevirtual 118, 3) := by decide +kernel
theorem dX6_value_63 : decode cX6_value 63 = .ok (.lconst 0, 1) := by decide +kernel
theorem dX6_value_64 : decode cX6_value 64 = .ok (.lstore 6, 2) := by decide +kernel
theorem dX6_value_66 : decode cX6_value 66 = .ok (.iconst 0, 1) := by decide +kernel
theorem dX6_value_67 : decode cX6_value 67 = .ok (.istore 8, 2) := by decide +kernel
theorem dX6_value_69 : decode cX6_value 69 = .ok (.iload 8, 2) := by decide +kernel
theorem dX6_value_71 : decode cX6_value 71 = .ok (.sipush 3024, 3) := by decide +kernel
theorem dX6_value_74 : decode cX6_value 74 = .ok (.if_icmp .ge 79, 3) := by decide +kernel
theorem dX6_value_77 : decode cX6_value 77 = .ok (.aload_n 0, 1) := by decide +kernel
theorem dX6_value_78 : decode cX6_value 78 = .ok (.getfield 22, 3) := by decide +kernel
theorem dX6_value_81 : decode cX6_value 81 = .ok (.iload 8, 2) := by decide +kernel
theorem dX6_value_83 : decode cX6_value 83 = .ok (.laload, 1) := by decide +kernel
theorem dX6_value_84 : decode cX6_value 84 = .ok (.lconst 0, 1) := by decide +kernel
theorem dX6_value_85 : decode cX6_value 85 = .ok (.lcmp, 1) := by decide +kernel
theorem dX6_value_86 : decode cX6_value 86 = .ok (.ifCond .eq 61, 3) := by decide +kernel
theorem dX6_value_89 : decode cX6_value 89 = .ok (.lload 6, 2) := by decide +kernel
theorem dX6_value_91 : decode cX6_value 91 = .ok (.aload_n 0, 1) := by decide +kernel
theorem dX6_value_92 : decode cX6_value 92 = .ok (.getfield 22, 3) := by decide +kernel
theorem dX6_value_95 : decode cX6_value 95 = .ok (.iload 8, 2) := by decide +kernel
theorem dX6_value_97 : decode cX6_value 97 = .ok (.laload, 1) := by decide +kernel
theorem dX6_value_98 : decode cX6_value 98 = .ok (.iload_n 2, 1) := by decide +kernel
theorem dX6_value_99 : decode cX6_value 99 = .ok (.iload 8, 2) := by decide +kernel
theorem dX6_value_101 : decode cX6_value 101 = .ok (.iconst 1, 1) := by decide +kernel
theorem dX6_value_102 : decode cX6_value 102 = .ok (.invokestatic 103, 3) := by decide +kernel
theorem dX6_value_105 : decode cX6_value 105 = .ok (.invokestatic 136, 3) := by decide +kernel
theorem dX6_value_108 : decode cX6_value 108 = .ok (.lmul, 1) := by decide +kernel
theorem dX6_value_109 : decode cX6_value 109 = .ok (.iload_n 3, 1) := by decide +kernel
theorem dX6_value_110 : decode cX6_value 110 = .ok (.iload 8, 2) := by decide +kernel
theorem dX6_value_112 : decode cX6_value 112 = .ok (.iconst 2, 1) := by decide +kernel
theorem dX6_value_113 : decode cX6_value 113 = .ok (.invokestatic 103, 3) := by decide +kernel
theorem dX6_value_116 : decode cX6_value 116 = .ok (.invokestatic 136, 3) := by decide +kernel
theorem dX6_value_119 : decode cX6_value 119 = .ok (.lmul, 1) := by decide +kernel
theorem dX6_value_120 : decode cX6_value 120 = .ok (.iload 4, 2) := by decide +kernel
theorem dX6_value_122 : decode cX6_value 122 = .ok (.iload 8, 2) := by decide +kernel
theorem dX6_value_124 : decode cX6_value 124 = .ok (.iconst 3, 1) := by decide +kernel
theorem dX6_value_125 : decode cX6_value 125 = .ok (.invokestatic 103, 3) := by decide +kernel
theorem dX6_value_128 : decode cX6_value 128 = .ok (.invokestatic 136, 3) := by decide +kernel
theorem dX6_value_131 : decode cX6_value 131 = .ok (.lmul, 1) := by decide +kernel
theorem dX6_value_132 : decode cX6_value 132 = .ok (.iload 5, 2) := by decide +kernel
theorem dX6_value_134 : decode cX6_value 134 = .ok (.iload 8, 2) := by decide +kernel
theorem dX6_value_136 : decode cX6_value 136 = .ok (.iconst 4, 1) := by decide +kernel
theorem dX6_value_137 : decode cX6_value 137 = .ok (.invokestatic 103, 3) := by decide +kernel
theorem dX6_value_140 : decode cX6_value 140 = .ok (.invokestatic 136, 3) := by decide +kernel
theorem dX6_value_143 : decode cX6_value 143 = .ok (.lmul, 1) := by decide +kernel
theorem dX6_value_144 : decode cX6_value 144 = .ok (.ladd, 1) := by decide +kernel
theorem dX6_value_145 : decode cX6_value 145 = .ok (.lstore 6, 2) := by decide +kernel
theorem dX6_value_147 : decode cX6_value 147 = .ok (.iinc 8 1, 3) := by decide +kernel
theorem dX6_value_150 : decode cX6_value 150 = .ok (.goto (-81), 3) := by decide +kernel
theorem dX6_value_153 : decode cX6_value 153 = .ok (.lload 6, 2) := by decide +kernel
theorem dX6_value_155 : decode cX6_value 155 = .ok (.lreturn, 1) := by decide +kernel
set_option maxRecDepth 20000 in
theorem ggX6_becomes_X6_termsOf : GoodIn wsX6_becomes wsX6_termsOf := goodIn_r _ [9] (by decide +kernel) (by decide +kernel)
set_option maxRecDepth 20000 in
theorem gX6_becomes_X6_termsOf : GoodIn wsX6_becomes (va_wsS RX6 126 yX6_termsOf wsX6_termsOf) := goodIn_app (goodIn_of _ (by decide +kernel)) ggX6_becomes_X6_termsOf
theorem dX6_becomes_0 : decode cX6_becomes 0 = .ok (.iconst 0, 1) := by decide +kernel
theorem dX6_becomes_1 : decode cX6_becomes 1 = .ok (.istore_n 1, 1) := by decide +kernel
theorem dX6_becomes_2 : decode cX6_becomes 2 = .ok (.iload_n 1, 1) := by decide +kernel
theorem dX6_becomes_3 : decode cX6_becomes 3 = .ok (.sipush 3024, 3) := by decide +kernel
theorem dX6_becomes_6 : decode cX6_becomes 6 = .ok (.if_icmp .ge 38, 3) := by decide +kernel
theorem dX6_becomes_9 : decode cX6_becomes 9 = .ok (.aload_n 0, 1) := by decide +kernel
theorem dX6_becomes_10 : decode cX6_becomes 10 = .ok (.getfield 35, 3) := by decide +kernel
theorem dX6_becomes_13 : decode cX6_becomes 13 = .ok (.iload_n 1, 1) := by decide +kernel
theorem dX6_becomes_14 : decode cX6_becomes 14 = .ok (.laload, 1) := by decide +kernel
theorem dX6_becomes_15 : decode cX6_becomes 15 = .ok (.ldc2_w 140, 3) := by decide +kernel
theorem dX6_becomes_18 : decode cX6_becomes 18 = .ok (.lcmp, 1) := by decide +kernel
theorem dX6_becomes_19 : decode cX6_becomes 19 = .ok (.ifCond .gt 16, 3) := by decide +kernel
theorem dX6_becomes_22 : decode cX6_becomes 22 = .ok (.aload_n 0, 1) := by decide +kernel
theorem dX6_becomes_23 : decode cX6_becomes 23 = .ok (.getfield 35, 3) := by decide +kernel
theorem dX6_becomes_26 : decode cX6_becomes 26 = .ok (.iload_n 1, 1) := by decide +kernel
theorem dX6_becomes_27 : decode cX6_becomes 27 = .ok (.laload, 1) := by decide +kernel
theorem dX6_becomes_28 : decode cX6_becomes 28 = .ok (.ldc2_w 142, 3) := by decide +kernel
theorem dX6_becomes_31 : decode cX6_becomes 31 = .ok (.lcmp, 1) := by decide +kernel
theorem dX6_becomes_32 : decode cX6_becomes 32 = .ok (.ifCond .ge 6, 3) := by decide +kernel
theorem dX6_becomes_35 : decode cX6_becomes 35 = .ok (.bipush (-5), 2) := by decide +kernel
theorem dX6_becomes_37 : decode cX6_becomes 37 = .ok (.ireturn, 1) := by decide +kernel
theorem dX6_becomes_38 : decode cX6_becomes 38 = .ok (.iinc 1 1, 3) := by decide +kernel
theorem dX6_becomes_41 : decode cX6_becomes 41 = .ok (.goto (-39), 3) := by decide +kernel
theorem dX6_becomes_44 : decode cX6_becomes 44 = .ok (.iconst 0, 1) := by decide +kernel
theorem dX6_becomes_45 : decode cX6_becomes 45 = .ok (.istore_n 1, 1) := by decide +kernel
theorem dX6_becomes_46 : decode cX6_becomes 46 = .ok (.iload_n 1, 1) := by decide +kernel
theorem dX6_becomes_47 : decode cX6_becomes 47 = .ok (.sipush 3024, 3) := by decide +kernel
theorem dX6_becomes_50 : decode cX6_becomes 50 = .ok (.if_icmp .ge 21, 3) := by decide +kernel
theorem dX6_becomes_53 : decode cX6_becomes 53 = .ok (.aload_n 0, 1) := by decide +kernel
theorem dX6_becomes_54 : decode cX6_becomes 54 = .ok (.getfield 32, 3) := by decide +kernel
theorem dX6_becomes_57 : decode cX6_becomes 57 = .ok (.iload_n 1, 1) := by decide +kernel
theorem dX6_becomes_58 : decode cX6_becomes 58 = .ok (.aload_n 0, 1) := by decide +kernel
theorem dX6_becomes_59 : decode cX6_becomes 59 = .ok (.getfield 35, 3) := by decide +kernel
theorem dX6_becomes_62 : decode cX6_becomes 62 = .ok (.iload_n 1, 1) := by decide +kernel
theorem dX6_becomes_63 : decode cX6_becomes 63 = .ok (.laload, 1) := by decide +kernel
theorem dX6_becomes_64 : decode cX6_becomes 64 = .ok (.lastore, 1) := by decide +kernel
theorem dX6_becomes_65 : decode cX6_becomes 65 = .ok (.iinc 1 1, 3) := by decide +kernel
theorem dX6_becomes_68 : decode cX6_becomes 68 = .ok (.goto (-22), 3) := by decide +kernel
theorem dX6_becomes_71 : decode cX6_becomes 71 = .ok (.aload_n 0, 1) := by decide +kernel
theorem dX6_becomes_72 : decode cX6_becomes 72 = .ok (.iconst 0, 1) := by decide +kernel
theorem dX6_becomes_73 : decode cX6_becomes 73 = .ok (.putfield 144, 3) := by decide +kernel
theorem dX6_becomes_76 : decode cX6_becomes 76 = .ok (.aload_n 0, 1) := by decide +kernel
theorem dX6_becomes_77 : decode cX6_becomes 77 = .ok (.getfield 32, 3) := by decide +kernel
theorem dX6_becomes_80 : decode cX6_becomes 80 = .ok (.invokestatic 126, 3) := by decide +kernel
theorem dX6_becomes_83 : decode cX6_becomes 83 = .ok (.ireturn, 1) := by decide +kernel
set_option maxRecDepth 20000 in
theorem ggX6_wipe_X6_termsOf : GoodIn wsX6_wipe wsX6_termsOf := goodIn_r _ [6] (by decide +kernel) (by decide +kernel)
set_option maxRecDepth 20000 in
theorem gX6_wipe_X6_termsOf : GoodIn wsX6_wipe (va_wsS RX6 126 yX6_termsOf wsX6_termsOf) := goodIn_app (goodIn_of _ (by decide +kernel)) ggX6_wipe_X6_termsOf
theorem dX6_wipe_0 : decode cX6_wipe 0 = .ok (.aload_n 0, 1) := by decide +kernel
theorem dX6_wipe_1 : decode cX6_wipe 1 = .ok (.getfield 32, 3) := by decide +kernel
theorem dX6_wipe_4 : decode cX6_wipe 4 = .ok (.invokestatic 126, 3) := by decide +kernel
theorem dX6_wipe_7 : decode cX6_wipe 7 = .ok (.istore_n 1, 1) := by decide +kernel
theorem dX6_wipe_8 : decode cX6_wipe 8 = .ok (.iconst 0, 1) := by decide +kernel
theorem dX6_wipe_9 : decode cX6_wipe 9 = .ok (.istore_n 2, 1) := by decide +kernel
theorem dX6_wipe_10 : decode cX6_wipe 10 = .ok (.iload_n 2, 1) := by decide +kernel
theorem dX6_wipe_11 : decode cX6_wipe 11 = .ok (.sipush 3024, 3) := by decide +kernel
theorem dX6_wipe_14 : decode cX6_wipe 14 = .ok (.if_icmp .ge 16, 3) := by decide +kernel
theorem dX6_wipe_17 : decode cX6_wipe 17 = .ok (.aload_n 0, 1) := by decide +kernel
theorem dX6_wipe_18 : decode cX6_wipe 18 = .ok (.getfield 32, 3) := by decide +kernel
theorem dX6_wipe_21 : decode cX6_wipe 21 = .ok (.iload_n 2, 1) := by decide +kernel
theorem dX6_wipe_22 : decode cX6_wipe 22 = .ok (.lconst 0, 1) := by decide +kernel
theorem dX6_wipe_23 : decode cX6_wipe 23 = .ok (.lastore, 1) := by decide +kernel
theorem dX6_wipe_24 : decode cX6_wipe 24 = .ok (.iinc 2 1, 3) := by decide +kernel
theorem dX6_wipe_27 : decode cX6_wipe 27 = .ok (.goto (-17), 3) := by decide +kernel
theorem dX6_wipe_30 : decode cX6_wipe 30 = .ok (.aload_n 0, 1) := by decide +kernel
theorem dX6_wipe_31 : decode cX6_wipe 31 = .ok (.iconst 0, 1) := by decide +kernel
theorem dX6_wipe_32 : decode cX6_wipe 32 = .ok (.putfield 144, 3) := by decide +kernel
theorem dX6_wipe_35 : decode cX6_wipe 35 = .ok (.iload_n 1, 1) := by decide +kernel
theorem dX6_wipe_36 : decode cX6_wipe 36 = .ok (.ireturn, 1) := by decide +kernel
set_option maxRecDepth 20000 in
theorem ggX6_add_X6_within : GoodIn wsX6_add wsX6_within := goodIn_r _ [8] (by decide +kernel) (by decide +kernel)
set_option maxRecDepth 20000 in
theorem gX6_add_X6_within : GoodIn wsX6_add (va_wsS RX6 51 yX6_within wsX6_within) := goodIn_app (goodIn_of _ (by decide +kernel)) ggX6_add_X6_within
set_option maxRecDepth 20000 in
theorem ggX6_add_X6_lays : GoodIn wsX6_add wsX6_lays := goodIn_r _ [11, 5, 6, 7, 8] (by decide +kernel) (by decide +kernel)
set_option maxRecDepth 20000 in
theorem gX6_add_X6_lays : GoodIn wsX6_add (va_wsS RX6 63 yX6_lays wsX6_lays) := goodIn_app (goodIn_of _ (by decide +kernel)) ggX6_add_X6_lays
set_option maxRecDepth 20000 in
theorem ggX6_add_X6_isFit : GoodIn wsX6_add wsX6_isFit := goodIn_r _ [14, 15, 16, 7, 17] (by decide +kernel) (by decide +kernel)
set_option maxRecDepth 20000 in
theorem gX6_add_X6_isFit : GoodIn wsX6_add (va_wsS RX6 115 yX6_isFit wsX6_isFit) := goodIn_app (goodIn_of _ (by decide +kernel)) ggX6_add_X6_isFit
set_option maxRecDepth 20000 in
theorem ggX6_add_X6_findS : GoodIn wsX6_add wsX6_findS := goodIn_r _ [21, 22, 4, 23, 24, 7, 25, 26, 27, 28, 29, 30, 31, 32, 33, 34, 35, 36, 37, 38, 39, 40, 41, 42, 53, 54, 55, 56, 57, 58, 59, 60, 61, 62, 63, 64, 65, 66, 67, 68] (by decide +kernel) (by decide +kernel)
set_option maxRecDepth 20000 in
theorem gX6_add_X6_findS : GoodIn wsX6_add (wsV RX6 118 RX6 yX6_findS wsX6_findS) := goodIn_app (goodIn_of _ (by decide +kernel)) ggX6_add_X6_findS
set_option maxRecDepth 20000 in
theorem ggX6_add_X6_becomes : GoodIn wsX6_add wsX6_becomes := goodIn_r _ [46, 2, 47, 48, 3, 49, 50, 51, 7, 52, 53, 54, 55, 56, 57, 58, 59, 60, 61, 62, 63, 64, 65, 66, 67, 68] (by decide +kernel) (by decide +kernel)
set_option maxRecDepth 20000 in
theorem gX6_add_X6_becomes : GoodIn wsX6_add (wsV RX6 148 RX6 yX6_becomes wsX6_becomes) := goodIn_app (goodIn_of _ (by decide +kernel)) ggX6_add_X6_becomes
theorem dX6_add_0 : decode cX6_add 0 = .ok (.iload_n 1, 1) := by decide +kernel
theorem dX6_add_1 : decode cX6_add 1 = .ok (.sipush (-1000), 3) := by decide +kernel
theorem dX6_add_4 : decode cX6_add 4 = .ok (.sipush 1000, 3) := by decide +kernel
theorem dX6_add_7 : decode cX6_add 7 = .ok (.invokestatic 51, 3) := by decide +kernel
theorem dX6_add_10 : decode cX6_add 10 = .ok (.ifCond .eq 14, 3) := by decide +kernel
theorem dX6_add_13 : decode cX6_add 13 = .ok (.iload_n 2, 1) := by decide +kernel
theorem dX6_add_14 : decode cX6_add 14 = .ok (.aload_n 0, 1) := by decide +kernel
theorem dX6_add_15 : decode cX6_add 15 = .ok (.getfield 7, 3) := by decide +kernel
theorem dX6_add_18 : decode cX6_add 18 = .ok (.invokestatic 63, 3) := by decide +kernel
theorem dX6_add_21 : decode cX6_add 21 = .ok (.ifCond .ne 6, 3) := by decide +kernel
theorem dX6_add_24 : decode cX6_add 24 = .ok (.bipush (-2), 2) := by decide +kernel
theorem dX6_add_26 : decode cX6_add 26 = .ok (.ireturn, 1) := by decide +kernel
theorem dX6_add_27 : decode cX6_add 27 = .ok (.aload_n 0, 1) := by decide +kernel
theorem dX6_add_28 : decode cX6_add 28 = .ok (.getfield 7, 3) := by decide +kernel
theorem dX6_add_31 : decode cX6_add 31 = .ok (.invokestatic 115, 3) := by decide +kernel
theorem dX6_add_34 : decode cX6_add 34 = .ok (.ifCond .ne 6, 3) := by decide +kernel
theorem dX6_add_37 : decode cX6_add 37 = .ok (.bipush (-3), 2) := by decide +kernel
theorem dX6_add_39 : decode cX6_add 39 = .ok (.ireturn, 1) := by decide +kernel
theorem dX6_add_40 : decode cX6_add 40 = .ok (.aload_n 0, 1) := by decide +kernel
theorem dX6_add_41 : decode cX6_add 41 = .ok (.aload_n 0, 1) := by decide +kernel
theorem dX6_add_42 : decode cX6_add 42 = .ok (.getfield 7, 3) := by decide +kernel
theorem dX6_add_45 : decode cX6_add 45 = .ok (.invokevirtual 118, 3) := by decide +kernel
theorem dX6_add_48 : decode cX6_add 48 = .ok (.iconst 0, 1) := by decide +kernel
theorem dX6_add_49 : decode cX6_add 49 = .ok (.istore_n 3, 1) := by decide +kernel
theorem dX6_add_50 : decode cX6_add 50 = .ok (.iload_n 3, 1) := by decide +kernel
theorem dX6_add_51 : decode cX6_add 51 = .ok (.sipush 3024, 3) := by decide +kernel
theorem dX6_add_54 : decode cX6_add 54 = .ok (.if_icmp .ge 31, 3) := by decide +kernel
theorem dX6_add_57 : decode cX6_add 57 = .ok (.aload_n 0, 1) := by decide +kernel
theorem dX6_add_58 : decode cX6_add 58 = .ok (.getfield 35, 3) := by decide +kernel
theorem dX6_add_61 : decode cX6_add 61 = .ok (.iload_n 3, 1) := by decide +kernel
theorem dX6_add_62 : decode cX6_add 62 = .ok (.aload_n 0, 1) := by decide +kernel
theorem dX6_add_63 : decode cX6_add 63 = .ok (.getfield 32, 3) := by decide +kernel
theorem dX6_add_66 : decode cX6_add 66 = .ok (.iload_n 3, 1) := by decide +kernel
theorem dX6_add_67 : decode cX6_add 67 = .ok (.laload, 1) := by decide +kernel
theorem dX6_add_68 : decode cX6_add 68 = .ok (.iload_n 1, 1) := by decide +kernel
theorem dX6_add_69 : decode cX6_add 69 = .ok (.i2l, 1) := by decide +kernel
theorem dX6_add_70 : decode cX6_add 70 = .ok (.aload_n 0, 1) := by decide +kernel
theorem dX6_add_71 : decode cX6_add 71 = .ok (.getfield 22, 3) := by decide +kernel
theorem dX6_add_74 : decode cX6_add 74 = .ok (.iload_n 3, 1) := by decide +kernel
theorem dX6_add_75 : decode cX6_add 75 = .ok (.laload, 1) := by decide +kernel
theorem dX6_add_76 : decode cX6_add 76 = .ok (.lmul, 1) := by decide +kernel
theorem dX6_add_77 : decode cX6_add 77 = .ok (.ladd, 1) := by decide +kernel
theorem dX6_add_78 : decode cX6_add 78 = .ok (.lastore, 1) := by decide +kernel
theorem dX6_add_79 : decode cX6_add 79 = .ok (.iinc 3 1, 3) := by decide +kernel
theorem dX6_add_82 : decode cX6_add 82 = .ok (.goto (-32), 3) := by decide +kernel
theorem dX6_add_85 : decode cX6_add 85 = .ok (.aload_n 0, 1) := by decide +kernel
theorem dX6_add_86 : decode cX6_add 86 = .ok (.invokevirtual 148, 3) := by decide +kernel
theorem dX6_add_89 : decode cX6_add 89 = .ok (.ireturn, 1) := by decide +kernel
set_option maxRecDepth 20000 in
theorem ggX6_wideOf_X6_exponentAt : GoodIn wsX6_wideOf wsX6_exponentAt := goodIn_r _ [4] (by decide +kernel) (by decide +kernel)
set_option maxRecDepth 20000 in
theorem gX6_wideOf_X6_exponentAt : GoodIn wsX6_wideOf (va_wsS RX6 103 yX6_exponentAt wsX6_exponentAt) := goodIn_app (goodIn_of _ (by decide +kernel)) ggX6_wideOf_X6_exponentAt
theorem dX6_wideOf_0 : decode cX6_wideOf 0 = .ok (.iload_n 0, 1) := by decide +kernel
theorem dX6_wideOf_1 : decode cX6_wideOf 1 = .ok (.iconst 1, 1) := by decide +kernel
theorem dX6_wideOf_2 : decode cX6_wideOf 2 = .ok (.invokestatic 103, 3) := by decide +kernel
theorem dX6_wideOf_5 : decode cX6_wideOf 5 = .ok (.bipush 15, 2) := by decide +kernel
theorem dX6_wideOf_7 : decode cX6_wideOf 7 = .ok (.imul, 1) := by decide +kernel
theorem dX6_wideOf_8 : decode cX6_wideOf 8 = .ok (.iload_n 0, 1) := by decide +kernel
theorem dX6_wideOf_9 : decode cX6_wideOf 9 = .ok (.iconst 2, 1) := by decide +kernel
theorem dX6_wideOf_10 : decode cX6_wideOf 10 = .ok (.invokestatic 103, 3) := by decide +kernel
theorem dX6_wideOf_13 : decode cX6_wideOf 13 = .ok (.iadd, 1) := by decide +kernel
theorem dX6_wideOf_14 : decode cX6_wideOf 14 = .ok (.bipush 13, 2) := by decide +kernel
theorem dX6_wideOf_16 : decode cX6_wideOf 16 = .ok (.imul, 1) := by decide +kernel
theorem dX6_wideOf_17 : decode cX6_wideOf 17 = .ok (.iload_n 0, 1) := by decide +kernel
theorem dX6_wideOf_18 : decode cX6_wideOf 18 = .ok (.iconst 3, 1) := by decide +kernel
theorem dX6_wideOf_19 : decode cX6_wideOf 19 = .ok (.invokestatic 103, 3) := by decide +kernel
theorem dX6_wideOf_22 : decode cX6_wideOf 22 = .ok (.iadd, 1) := by decide +kernel
theorem dX6_wideOf_23 : decode cX6_wideOf 23 = .ok (.bipush 11, 2) := by decide +kernel
theorem dX6_wideOf_25 : decode cX6_wideOf 25 = .ok (.imul, 1) := by decide +kernel
theorem dX6_wideOf_26 : decode cX6_wideOf 26 = .ok (.iload_n 0, 1) := by decide +kernel
theorem dX6_wideOf_27 : decode cX6_wideOf 27 = .ok (.iconst 4, 1) := by decide +kernel
theorem dX6_wideOf_28 : decode cX6_wideOf 28 = .ok (.invokestatic 103, 3) := by decide +kernel
theorem dX6_wideOf_31 : decode cX6_wideOf 31 = .ok (.iadd, 1) := by decide +kernel
theorem dX6_wideOf_32 : decode cX6_wideOf 32 = .ok (.ireturn, 1) := by decide +kernel
set_option maxRecDepth 20000 in
theorem ggX6_findProduct_X6_wideOf : GoodIn wsX6_findProduct wsX6_wideOf := goodIn_r _ [8, 9, 10, 7, 11] (by decide +kernel) (by decide +kernel)
set_option maxRecDepth 20000 in
theorem gX6_findProduct_X6_wideOf : GoodIn wsX6_findProduct (va_wsS RX6 152 yX6_wideOf wsX6_wideOf) := goodIn_app (goodIn_of _ (by decide +kernel)) ggX6_findProduct_X6_wideOf
theorem dX6_findProduct_0 : decode cX6_findProduct 0 = .ok (.iconst 0, 1) := by decide +kernel
theorem dX6_findProduct_1 : decode cX6_findProduct 1 = .ok (.istore_n 1, 1) := by decide +kernel
theorem dX6_findProduct_2 : decode cX6_findProduct 2 = .ok (.iload_n 1, 1) := by decide +kernel
theorem dX6_findProduct_3 : decode cX6_findProduct 3 = .ok (.ldc 38, 2) := by decide +kernel
theorem dX6_findProduct_5 : decode cX6_findProduct 5 = .ok (.if_icmp .ge 16, 3) := by decide +kernel
theorem dX6_findProduct_8 : decode cX6_findProduct 8 = .ok (.aload_n 0, 1) := by decide +kernel
theorem dX6_findProduct_9 : decode cX6_findProduct 9 = .ok (.getfield 39, 3) := by decide +kernel
theorem dX6_findProduct_12 : decode cX6_findProduct 12 = .ok (.iload_n 1, 1) := by decide +kernel
theorem dX6_findProduct_13 : decode cX6_findProduct 13 = .ok (.lconst 0, 1) := by decide +kernel
theorem dX6_findProduct_14 : decode cX6_findProduct 14 = .ok (.lastore, 1) := by decide +kernel
theorem dX6_findProduct_15 : decode cX6_findProduct 15 = .ok (.iinc 1 1, 3) := by decide +kernel
theorem dX6_findProduct_18 : decode cX6_findProduct 18 = .ok (.goto (-16), 3) := by decide +kernel
theorem dX6_findProduct_21 : decode cX6_findProduct 21 = .ok (.iconst 0, 1) := by decide +kernel
theorem dX6_findProduct_22 : decode cX6_findProduct 22 = .ok (.istore_n 1, 1) := by decide +kernel
theorem dX6_findProduct_23 : decode cX6_findProduct 23 = .ok (.iload_n 1, 1) := by decide +kernel
theorem dX6_findProduct_24 : decode cX6_findProduct 24 = .ok (.sipush 3024, 3) := by decide +kernel
theorem dX6_findProduct_27 : decode cX6_findProduct 27 = .ok (.if_icmp .ge 76, 3) := by decide +kernel
theorem dX6_findProduct_30 : decode cX6_findProduct 30 = .ok (.iconst 0, 1) := by decide +kernel
theorem dX6_findProduct_31 : decode cX6_findProduct 31 = .ok (.istore_n 2, 1) := by decide +kernel
theorem dX6_findProduct_32 : decode cX6_findProduct 32 = .ok (.iload_n 2, 1) := by decide +kernel
theorem dX6_findProduct_33 : decode cX6_findProduct 33 = .ok (.sipush 3024, 3) := by decide +kernel
theorem dX6_findProduct_36 : decode cX6_findProduct 36 = .ok (.if_icmp .ge 61, 3) := by decide +kernel
theorem dX6_findProduct_39 : decode cX6_findProduct 39 = .ok (.aload_n 0, 1) := by decide +kernel
theorem dX6_findProduct_40 : decode cX6_findProduct 40 = .ok (.getfield 32, 3) := by decide +kernel
theorem dX6_findProduct_43 : decode cX6_findProduct 43 = .ok (.iload_n 1, 1) := by decide +kernel
theorem dX6_findProduct_44 : decode cX6_findProduct 44 = .ok (.laload, 1) := by decide +kernel
theorem dX6_findProduct_45 : decode cX6_findProduct 45 = .ok (.lconst 0, 1) := by decide +kernel
theorem dX6_findProduct_46 : decode cX6_findProduct 46 = .ok (.lcmp, 1) := by decide +kernel
theorem dX6_findProduct_47 : decode cX6_findProduct 47 = .ok (.ifCond .eq 50, 3) := by decide +kernel
theorem dX6_findProduct_50 : decode cX6_findProduct 50 = .ok (.aload_n 0, 1) := by decide +kernel
theorem dX6_findProduct_51 : decode cX6_findProduct 51 = .ok (.getfield 22, 3) := by decide +kernel
theorem dX6_findProduct_54 : decode cX6_findProduct 54 = .ok (.iload_n 2, 1) := by decide +kernel
theorem dX6_findProduct_55 : decode cX6_findProduct 55 = .ok (.laload, 1) := by decide +kernel
theorem dX6_findProduct_56 : decode cX6_findProduct 56 = .ok (.lconst 0, 1) := by decide +kernel
theorem dX6_findProduct_57 : decode cX6_findProduct 57 = .ok (.lcmp, 1) := by decide +kernel
theorem dX6_findProduct_58 : decode cX6_findProduct 58 = .ok (.ifCond .eq 33, 3) := by decide +kernel
theorem dX6_findProduct_61 : decode cX6_findProduct 61 = .ok (.aload_n 0, 1) := by decide +kernel
theorem dX6_findProduct_62 : decode cX6_findProduct 62 = .ok (.getfield 39, 3) := by decide +kernel
theorem dX6_findProduct_65 : decode cX6_findProduct 65 = .ok (.iload_n 1, 1) := by decide +kernel
theorem dX6_findProduct_66 : decode cX6_findProduct 66 = .ok (.invokestatic 152, 3) := by decide +kernel
theorem dX6_findProduct_69 : decode cX6_findProduct 69 = .ok (.iload_n 2, 1) := by decide +kernel
theorem dX6_findProduct_70 : decode cX6_findProduct 70 = .ok (.invokestatic 152, 3) := by decide +kernel
theorem dX6_findProduct_73 : decode cX6_findProduct 73 = .ok (.iadd, 1) := by decide +kernel
theorem dX6_findProduct_74 : decode cX6_findProduct 74 = .ok (.dup2, 1) := by decide +kernel
theorem dX6_findProduct_75 : decode cX6_findProduct 75 = .ok (.laload, 1) := by decide +kernel
theorem dX6_findProduct_76 : decode cX6_findProduct 76 = .ok (.aload_n 0, 1) := by decide +kernel
theorem dX6_findProduct_77 : decode cX6_findProduct 77 = .ok (.getfield 32, 3) := by decide +kernel
theorem dX6_findProduct_80 : decode cX6_findProduct 80 = .ok (.iload_n 1, 1) := by decide +kernel
theorem dX6_findProduct_81 : decode cX6_findProduct 81 = .ok (.laload, 1) := by decide +kernel
theorem dX6_findProduct_82 : decode cX6_findProduct 82 = .ok (.aload_n 0, 1) := by decide +kernel
theorem dX6_findProduct_83 : decode cX6_findProduct 83 = .ok (.getfield 22, 3) := by decide +kernel
theorem dX6_findProduct_86 : decode cX6_findProduct 86 = .ok (.iload_n 2, 1) := by decide +kernel
theorem dX6_findProduct_87 : decode cX6_findProduct 87 = .ok (.laload, 1) := by decide +kernel
theorem dX6_findProduct_88 : decode cX6_findProduct 88 = .ok (.lmul, 1) := by decide +kernel
theorem dX6_findProduct_89 : decode cX6_findProduct 89 = .ok (.ladd, 1) := by decide +kernel
theorem dX6_findProduct_90 : decode cX6_findProduct 90 = .ok (.lastore, 1) := by decide +kernel
theorem dX6_findProduct_91 : decode cX6_findProduct 91 = .ok (.iinc 2 1, 3) := by decide +kernel
theorem dX6_findProduct_94 : decode cX6_findProduct 94 = .ok (.goto (-62), 3) := by decide +kernel
theorem dX6_findProduct_97 : decode cX6_findProduct 97 = .ok (.iinc 1 1, 3) := by decide +kernel
theorem dX6_findProduct_100 : decode cX6_findProduct 100 = .ok (.goto (-77), 3) := by decide +kernel
theorem dX6_findProduct_103 : decode cX6_findProduct 103 = .ok (.return_, 1) := by decide +kernel
set_option maxRecDepth 20000 in
theorem ggX6_keeps_X6_wideOf : GoodIn wsX6_keeps wsX6_wideOf := goodIn_r _ [7, 8, 9, 6, 10] (by decide +kernel) (by decide +kernel)
set_option maxRecDepth 20000 in
theorem gX6_keeps_X6_wideOf : GoodIn wsX6_keeps (va_wsS RX6 152 yX6_wideOf wsX6_wideOf) := goodIn_app (goodIn_of _ (by decide +kernel)) ggX6_keeps_X6_wideOf
theorem dX6_keeps_0 : decode cX6_keeps 0 = .ok (.iconst 0, 1) := by decide +kernel
theorem dX6_keeps_1 : decode cX6_keeps 1 = .ok (.istore_n 1, 1) := by decide +kernel
theorem dX6_keeps_2 : decode cX6_keeps 2 = .ok (.iload_n 1, 1) := by decide +kernel
theorem dX6_keeps_3 : decode cX6_keeps 3 = .ok (.sipush 3024, 3) := by decide +kernel
theorem dX6_keeps_6 : decode cX6_keeps 6 = .ok (.if_icmp .ge 34, 3) := by decide +kernel
theorem dX6_keeps_9 : decode cX6_keeps 9 = .ok (.aload_n 0, 1) := by decide +kernel
theorem dX6_keeps_10 : decode cX6_keeps 10 = .ok (.getfield 35, 3) := by decide +kernel
theorem dX6_keeps_13 : decode cX6_keeps 13 = .ok (.iload_n 1, 1) := by decide +kernel
theorem dX6_keeps_14 : decode cX6_keeps 14 = .ok (.aload_n 0, 1) := by decide +kernel
theorem dX6_keeps_15 : decode cX6_keeps 15 = .ok (.getfield 39, 3) := by decide +kernel
theorem dX6_keeps_18 : decode cX6_keeps 18 = .ok (.iload_n 1, 1) := by decide +kernel
theorem dX6_keeps_19 : decode cX6_keeps 19 = .ok (.invokestatic 152, 3) := by decide +kernel
theorem dX6_keeps_22 : decode cX6_keeps 22 = .ok (.laload, 1) := by decide +kernel
theorem dX6_keeps_23 : decode cX6_keeps 23 = .ok (.lastore, 1) := by decide +kernel
theorem dX6_keeps_24 : decode cX6_keeps 24 = .ok (.aload_n 0, 1) := by decide +kernel
theorem dX6_keeps_25 : decode cX6_keeps 25 = .ok (.getfield 39, 3) := by decide +kernel
theorem dX6_keeps_28 : decode cX6_keeps 28 = .ok (.iload_n 1, 1) := by decide +kernel
theorem dX6_keeps_29 : decode cX6_keeps 29 = .ok (.invokestatic 152, 3) := by decide +kernel
theorem dX6_keeps_32 : decode cX6_keeps 32 = .ok (.lconst 0, 1) := by decide +kernel
theorem dX6_keeps_33 : decode cX6_keeps 33 = .ok (.lastore, 1) := by decide +kernel
theorem dX6_keeps_34 : decode cX6_keeps 34 = .ok (.iinc 1 1, 3) := by decide +kernel
theorem dX6_keeps_37 : decode cX6_keeps 37 = .ok (.goto (-35), 3) := by decide +kernel
theorem dX6_keeps_40 : decode cX6_keeps 40 = .ok (.iconst 1, 1) := by decide +kernel
theorem dX6_keeps_41 : decode cX6_keeps 41 = .ok (.istore_n 1, 1) := by decide +kernel
theorem dX6_keeps_42 : decode cX6_keeps 42 = .ok (.iconst 0, 1) := by decide +kernel
theorem dX6_keeps_43 : decode cX6_keeps 43 = .ok (.istore_n 2, 1) := by decide +kernel
theorem dX6_keeps_44 : decode cX6_keeps 44 = .ok (.iload_n 2, 1) := by decide +kernel
theorem dX6_keeps_45 : decode cX6_keeps 45 = .ok (.ldc 38, 2) := by decide +kernel
theorem dX6_keeps_47 : decode cX6_keeps 47 = .ok (.if_icmp .ge 30, 3) := by decide +kernel
theorem dX6_keeps_50 : decode cX6_keeps 50 = .ok (.iload_n 1, 1) := by decide +kernel
theorem dX6_keeps_51 : decode cX6_keeps 51 = .ok (.ifCond .eq 18, 3) := by decide +kernel
theorem dX6_keeps_54 : decode cX6_keeps 54 = .ok (.aload_n 0, 1) := by decide +kernel
theorem dX6_keeps_55 : decode cX6_keeps 55 = .ok (.getfield 39, 3) := by decide +kernel
theorem dX6_keeps_58 : decode cX6_keeps 58 = .ok (.iload_n 2, 1) := by decide +kernel
theorem dX6_keeps_59 : decode cX6_keeps 59 = .ok (.laload, 1) := by decide +kernel
theorem dX6_keeps_60 : decode cX6_keeps 60 = .ok (.lconst 0, 1) := by decide +kernel
theorem dX6_keeps_61 : decode cX6_keeps 61 = .ok (.lcmp, 1) := by decide +kernel
theorem dX6_keeps_62 : decode cX6_keeps 62 = .ok (.ifCond .ne 7, 3) := by decide +kernel
theorem dX6_keeps_65 : decode cX6_keeps 65 = .ok (.iconst 1, 1) := by decide +kernel
theorem dX6_keeps_66 : decode cX6_keeps 66 = .ok (.goto 4, 3) := by decide +kernel
theorem dX6_keeps_69 : decode cX6_keeps 69 = .ok (.iconst 0, 1) := by decide +kernel
theorem dX6_keeps_70 : decode cX6_keeps 70 = .ok (.istore_n 1, 1) := by decide +kernel
theorem dX6_keeps_71 : decode cX6_keeps 71 = .ok (.iinc 2 1, 3) := by decide +kernel
theorem dX6_keeps_74 : decode cX6_keeps 74 = .ok (.goto (-30), 3) := by decide +kernel
theorem dX6_keeps_77 : decode cX6_keeps 77 = .ok (.iload_n 1, 1) := by decide +kernel
theorem dX6_keeps_78 : decode cX6_keeps 78 = .ok (.ireturn, 1) := by decide +kernel
set_option maxRecDepth 20000 in
theorem ggX6_multiply_X6_lays : GoodIn wsX6_multiply wsX6_lays := goodIn_r _ [5, 6, 7, 4, 8] (by decide +kernel) (by decide +kernel)
set_option maxRecDepth 20000 in
theorem gX6_multiply_X6_lays : GoodIn wsX6_multiply (va_wsS RX6 63 yX6_lays wsX6_lays) := goodIn_app (goodIn_of _ (by decide +kernel)) ggX6_multiply_X6_lays
set_option maxRecDepth 20000 in
theorem ggX6_multiply_X6_isFit : GoodIn wsX6_multiply wsX6_isFit := goodIn_r _ [11, 12, 13, 4, 14] (by decide +kernel) (by decide +kernel)
set_option maxRecDepth 20000 in
theorem gX6_multiply_X6_isFit : GoodIn wsX6_multiply (va_wsS RX6 115 yX6_isFit wsX6_isFit) := goodIn_app (goodIn_of _ (by decide +kernel)) ggX6_multiply_X6_isFit
set_option maxRecDepth 20000 in
theorem ggX6_multiply_X6_findS : GoodIn wsX6_multiply wsX6_findS := goodIn_r _ [18, 19, 20, 21, 22, 4, 23, 24, 25, 26, 27, 28, 29, 30, 31, 32, 33, 34, 35, 36, 37, 38, 39, 40, 66, 67, 68, 69, 70, 71, 72, 73, 74, 75, 76, 77, 78, 79, 80, 81] (by decide +kernel) (by decide +kernel)
set_option maxRecDepth 20000 in
theorem gX6_multiply_X6_findS : GoodIn wsX6_multiply (wsV RX6 118 RX6 yX6_findS wsX6_findS) := goodIn_app (goodIn_of _ (by decide +kernel)) ggX6_multiply_X6_findS
set_option maxRecDepth 20000 in
theorem ggX6_multiply_X6_findProduct : GoodIn wsX6_multiply wsX6_findProduct := goodIn_r _ [44, 45, 46, 47, 20, 48, 49, 4, 50, 38, 39, 40, 66, 67, 68, 69, 70, 71, 72, 73, 74, 75, 76, 77, 78, 79, 80, 81] (by decide +kernel) (by decide +kernel)
set_option maxRecDepth 20000 in
theorem gX6_multiply_X6_findProduct : GoodIn wsX6_multiply (wsV RX6 155 RX6 yX6_findProduct wsX6_findProduct) := goodIn_app (goodIn_of _ (by decide +kernel)) ggX6_multiply_X6_findProduct
set_option maxRecDepth 20000 in
theorem ggX6_multiply_X6_keeps : GoodIn wsX6_multiply wsX6_keeps := goodIn_r _ [54, 55, 46, 45, 48, 49, 4, 50, 38, 39, 40, 66, 67, 68, 69, 70, 71, 72, 73, 74, 75, 76, 77, 78, 79, 80, 81] (by decide +kernel) (by decide +kernel)
set_option maxRecDepth 20000 in
theorem gX6_multiply_X6_keeps : GoodIn wsX6_multiply (wsV RX6 158 RX6 yX6_keeps wsX6_keeps) := goodIn_app (goodIn_of _ (by decide +kernel)) ggX6_multiply_X6_keeps
set_option maxRecDepth 20000 in
theorem ggX6_multiply_X6_becomes : GoodIn wsX6_multiply wsX6_becomes := goodIn_r _ [59, 55, 60, 61, 47, 62, 63, 64, 4, 65, 66, 67, 68, 69, 70, 71, 72, 73, 74, 75, 76, 77, 78, 79, 80, 81] (by decide +kernel) (by decide +kernel)
set_option maxRecDepth 20000 in
theorem gX6_multiply_X6_becomes : GoodIn wsX6_multiply (wsV RX6 148 RX6 yX6_becomes wsX6_becomes) := goodIn_app (goodIn_of _ (by decide +kernel)) ggX6_multiply_X6_becomes
theorem dX6_multiply_0 : decode cX6_multiply 0 = .ok (.iload_n 1, 1) := by decide +kernel
theorem dX6_multiply_1 : decode cX6_multiply 1 = .ok (.aload_n 0, 1) := by decide +kernel
theorem dX6_multiply_2 : decode cX6_multiply 2 = .ok (.getfield 7, 3) := by decide +kernel
theorem dX6_multiply_5 : decode cX6_multiply 5 = .ok (.invokestatic 63, 3) := by decide +kernel
theorem dX6_multiply_8 : decode cX6_multiply 8 = .ok (.ifCond .ne 6, 3) := by decide +kernel
theorem dX6_multiply_11 : decode cX6_multiply 11 = .ok (.bipush (-2), 2) := by decide +kernel
theorem dX6_multiply_13 : decode cX6_multiply 13 = .ok (.ireturn, 1) := by decide +kernel
theorem dX6_multiply_14 : decode cX6_multiply 14 = .ok (.aload_n 0, 1) := by decide +kernel
theorem dX6_multiply_15 : decode cX6_multiply 15 = .ok (.getfield 7, 3) := by decide +kernel
theorem dX6_multiply_18 : decode cX6_multiply 18 = .ok (.invokestatic 115, 3) := by decide +kernel
theorem dX6_multiply_21 : decode cX6_multiply 21 = .ok (.ifCond .ne 6, 3) := by decide +kernel
theorem dX6_multiply_24 : decode cX6_multiply 24 = .ok (.bipush (-3), 2) := by decide +kernel
theorem dX6_multiply_26 : decode cX6_multiply 26 = .ok (.ireturn, 1) := by decide +kernel
theorem dX6_multiply_27 : decode cX6_multiply 27 = .ok (.aload_n 0, 1) := by decide +kernel
theorem dX6_multiply_28 : decode cX6_multiply 28 = .ok (.aload_n 0, 1) := by decide +kernel
theorem dX6_multiply_29 : decode cX6_multiply 29 = .ok (.getfield 7, 3) := by decide +kernel
theorem dX6_multiply_32 : decode cX6_multiply 32 = .ok (.invokevirtual 118, 3) := by decide +kernel
theorem dX6_multiply_35 : decode cX6_multiply 35 = .ok (.aload_n 0, 1) := by decide +kernel
theorem dX6_multiply_36 : decode cX6_multiply 36 = .ok (.invokevirtual 155, 3) := by decide +kernel
theorem dX6_multiply_39 : decode cX6_multiply 39 = .ok (.aload_n 0, 1) := by decide +kernel
theorem dX6_multiply_40 : decode cX6_multiply 40 = .ok (.invokevirtual 158, 3) := by decide +kernel
theorem dX6_multiply_43 : decode cX6_multiply 43 = .ok (.ifCond .eq 10, 3) := by decide +kernel
theorem dX6_multiply_46 : decode cX6_multiply 46 = .ok (.aload_n 0, 1) := by decide +kernel
theorem dX6_multiply_47 : decode cX6_multiply 47 = .ok (.invokevirtual 148, 3) := by decide +kernel
theorem dX6_multiply_50 : decode cX6_multiply 50 = .ok (.goto 5, 3) := by decide +kernel
theorem dX6_multiply_53 : decode cX6_multiply 53 = .ok (.bipush (-5), 2) := by decide +kernel
theorem dX6_multiply_55 : decode cX6_multiply 55 = .ok (.ireturn, 1) := by decide +kernel
set_option maxRecDepth 20000 in
theorem ggX6_difference_X6_within : GoodIn wsX6_difference wsX6_within := goodIn_r _ [6] (by decide +kernel) (by decide +kernel)
set_option maxRecDepth 20000 in
theorem gX6_difference_X6_within : GoodIn wsX6_difference (va_wsS RX6 51 yX6_within wsX6_within) := goodIn_app (goodIn_of _ (by decide +kernel)) ggX6_difference_X6_within
set_option maxRecDepth 20000 in
theorem ggX6_difference_X6_differs : GoodIn wsX6_difference wsX6_differs := goodIn_r _ [10, 11, 12, 13, 5, 14, 15, 16, 17, 28, 29, 30, 31, 32, 33, 34, 35, 36, 37, 38, 39, 40, 41, 42, 43] (by decide +kernel) (by decide +kernel)
set_option maxRecDepth 20000 in
theorem gX6_difference_X6_differs : GoodIn wsX6_difference (wsV RX6 111 RX6 yX6_differs wsX6_differs) := goodIn_app (goodIn_of _ (by decide +kernel)) ggX6_difference_X6_differs
set_option maxRecDepth 20000 in
theorem ggX6_difference_X6_becomes : GoodIn wsX6_difference wsX6_becomes := goodIn_r _ [21, 1, 22, 23, 2, 24, 25, 26, 5, 27, 28, 29, 30, 31, 32, 33, 34, 35, 36, 37, 38, 39, 40, 41, 42, 43] (by decide +kernel) (by decide +kernel)
set_option maxRecDepth 20000 in
theorem gX6_difference_X6_becomes : GoodIn wsX6_difference (wsV RX6 148 RX6 yX6_becomes wsX6_becomes) := goodIn_app (goodIn_of _ (by decide +kernel)) ggX6_difference_X6_becomes
theorem dX6_difference_0 : decode cX6_difference 0 = .ok (.iload_n 1, 1) := by decide +kernel
theorem dX6_difference_1 : decode cX6_difference 1 = .ok (.iconst 1, 1) := by decide +kernel
theorem dX6_difference_2 : decode cX6_difference 2 = .ok (.iconst 3, 1) := by decide +kernel
theorem dX6_difference_3 : decode cX6_difference 3 = .ok (.invokestatic 51, 3) := by decide +kernel
theorem dX6_difference_6 : decode cX6_difference 6 = .ok (.ifCond .ne 6, 3) := by decide +kernel
theorem dX6_difference_9 : decode cX6_difference 9 = .ok (.bipush (-2), 2) := by decide +kernel
theorem dX6_difference_11 : decode cX6_difference 11 = .ok (.ireturn, 1) := by decide +kernel
theorem dX6_difference_12 : decode cX6_difference 12 = .ok (.iconst 0, 1) := by decide +kernel
theorem dX6_difference_13 : decode cX6_difference 13 = .ok (.istore_n 2, 1) := by decide +kernel
theorem dX6_difference_14 : decode cX6_difference 14 = .ok (.iload_n 2, 1) := by decide +kernel
theorem dX6_difference_15 : decode cX6_difference 15 = .ok (.sipush 3024, 3) := by decide +kernel
theorem dX6_difference_18 : decode cX6_difference 18 = .ok (.if_icmp .ge 21, 3) := by decide +kernel
theorem dX6_difference_21 : decode cX6_difference 21 = .ok (.aload_n 0, 1) := by decide +kernel
theorem dX6_difference_22 : decode cX6_difference 22 = .ok (.getfield 35, 3) := by decide +kernel
theorem dX6_difference_25 : decode cX6_difference 25 = .ok (.iload_n 2, 1) := by decide +kernel
theorem dX6_difference_26 : decode cX6_difference 26 = .ok (.aload_n 0, 1) := by decide +kernel
theorem dX6_difference_27 : decode cX6_difference 27 = .ok (.getfield 32, 3) := by decide +kernel
theorem dX6_difference_30 : decode cX6_difference 30 = .ok (.iload_n 2, 1) := by decide +kernel
theorem dX6_difference_31 : decode cX6_difference 31 = .ok (.laload, 1) := by decide +kernel
theorem dX6_difference_32 : decode cX6_difference 32 = .ok (.lastore, 1) := by decide +kernel
theorem dX6_difference_33 : decode cX6_difference 33 = .ok (.iinc 2 1, 3) := by decide +kernel
theorem dX6_difference_36 : decode cX6_difference 36 = .ok (.goto (-22), 3) := by decide +kernel
theorem dX6_difference_39 : decode cX6_difference 39 = .ok (.aload_n 0, 1) := by decide +kernel
theorem dX6_difference_40 : decode cX6_difference 40 = .ok (.aload_n 0, 1) := by decide +kernel
theorem dX6_difference_41 : decode cX6_difference 41 = .ok (.getfield 35, 3) := by decide +kernel
theorem dX6_difference_44 : decode cX6_difference 44 = .ok (.iload_n 1, 1) := by decide +kernel
theorem dX6_difference_45 : decode cX6_difference 45 = .ok (.invokevirtual 111, 3) := by decide +kernel
theorem dX6_difference_48 : decode cX6_difference 48 = .ok (.aload_n 0, 1) := by decide +kernel
theorem dX6_difference_49 : decode cX6_difference 49 = .ok (.invokevirtual 148, 3) := by decide +kernel
theorem dX6_difference_52 : decode cX6_difference 52 = .ok (.ireturn, 1) := by decide +kernel
set_option maxRecDepth 20000 in
theorem ggX6_sheet_X6_isCell : GoodIn wsX6_sheet wsX6_isCell := goodIn_r _ [6, 7, 8, 5, 9] (by decide +kernel) (by decide +kernel)
set_option maxRecDepth 20000 in
theorem gX6_sheet_X6_isCell : GoodIn wsX6_sheet (va_wsS RX6 122 yX6_isCell wsX6_isCell) := goodIn_app (goodIn_of _ (by decide +kernel)) ggX6_sheet_X6_isCell
set_option maxRecDepth 20000 in
theorem ggX6_sheet_X6_cellOf : GoodIn wsX6_sheet wsX6_cellOf := goodIn_r _ [12] (by decide +kernel) (by decide +kernel)
set_option maxRecDepth 20000 in
theorem gX6_sheet_X6_cellOf : GoodIn wsX6_sheet (va_wsS RX6 107 yX6_cellOf wsX6_cellOf) := goodIn_app (goodIn_of _ (by decide +kernel)) ggX6_sheet_X6_cellOf
theorem dX6_sheet_0 : decode cX6_sheet 0 = .ok (.iload_n 1, 1) := by decide +kernel
theorem dX6_sheet_1 : decode cX6_sheet 1 = .ok (.ifCond .lt 16, 3) := by decide +kernel
theorem dX6_sheet_4 : decode cX6_sheet 4 = .ok (.iload_n 2, 1) := by decide +kernel
theorem dX6_sheet_5 : decode cX6_sheet 5 = .ok (.ifCond .lt 12, 3) := by decide +kernel
theorem dX6_sheet_8 : decode cX6_sheet 8 = .ok (.iload_n 3, 1) := by decide +kernel
theorem dX6_sheet_9 : decode cX6_sheet 9 = .ok (.ifCond .lt 8, 3) := by decide +kernel
theorem dX6_sheet_12 : decode cX6_sheet 12 = .ok (.iload 4, 2) := by decide +kernel
theorem dX6_sheet_14 : decode cX6_sheet 14 = .ok (.ifCond .ge 7, 3) := by decide +kernel
theorem dX6_sheet_17 : decode cX6_sheet 17 = .ok (.ldc2_w 134, 3) := by decide +kernel
theorem dX6_sheet_20 : decode cX6_sheet 20 = .ok (.lreturn, 1) := by decide +kernel
theorem dX6_sheet_21 : decode cX6_sheet 21 = .ok (.iload_n 1, 1) := by decide +kernel
theorem dX6_sheet_22 : decode cX6_sheet 22 = .ok (.iload_n 2, 1) := by decide +kernel
theorem dX6_sheet_23 : decode cX6_sheet 23 = .ok (.iload_n 3, 1) := by decide +kernel
theorem dX6_sheet_24 : decode cX6_sheet 24 = .ok (.iload 4, 2) := by decide +kernel
theorem dX6_sheet_26 : decode cX6_sheet 26 = .ok (.invokestatic 122, 3) := by decide +kernel
theorem dX6_sheet_29 : decode cX6_sheet 29 = .ok (.ifCond .eq 19, 3) := by decide +kernel
theorem dX6_sheet_32 : decode cX6_sheet 32 = .ok (.aload_n 0, 1) := by decide +kernel
theorem dX6_sheet_33 : decode cX6_sheet 33 = .ok (.getfield 32, 3) := by decide +kernel
theorem dX6_sheet_36 : decode cX6_sheet 36 = .ok (.iload_n 1, 1) := by decide +kernel
theorem dX6_sheet_37 : decode cX6_sheet 37 = .ok (.iload_n 2, 1) := by decide +kernel
theorem dX6_sheet_38 : decode cX6_sheet 38 = .ok (.iload_n 3, 1) := by decide +kernel
theorem dX6_sheet_39 : decode cX6_sheet 39 = .ok (.iload 4, 2) := by decide +kernel
theorem dX6_sheet_41 : decode cX6_sheet 41 = .ok (.invokestatic 107, 3) := by decide +kernel
theorem dX6_sheet_44 : decode cX6_sheet 44 = .ok (.laload, 1) := by decide +kernel
theorem dX6_sheet_45 : decode cX6_sheet 45 = .ok (.goto 4, 3) := by decide +kernel
theorem dX6_sheet_48 : decode cX6_sheet 48 = .ok (.lconst 0, 1) := by decide +kernel
theorem dX6_sheet_49 : decode cX6_sheet 49 = .ok (.lreturn, 1) := by decide +kernel
theorem dX6_adds_0 : decode cX6_adds 0 = .ok (.aload_n 0, 1) := by decide +kernel
theorem dX6_adds_1 : decode cX6_adds 1 = .ok (.getfield 162, 3) := by decide +kernel
theorem dX6_adds_4 : decode cX6_adds 4 = .ok (.istore 4, 2) := by decide +kernel
theorem dX6_adds_6 : decode cX6_adds 6 = .ok (.iload 4, 2) := by decide +kernel
theorem dX6_adds_8 : decode cX6_adds 8 = .ok (.ifCond .le 54, 3) := by decide +kernel
theorem dX6_adds_11 : decode cX6_adds 11 = .ok (.aload_n 0, 1) := by decide +kernel
theorem dX6_adds_12 : decode cX6_adds 12 = .ok (.getfield 42, 3) := by decide +kernel
theorem dX6_adds_15 : decode cX6_adds 15 = .ok (.iload 4, 2) := by decide +kernel
theorem dX6_adds_17 : decode cX6_adds 17 = .ok (.iconst 1, 1) := by decide +kernel
theorem dX6_adds_18 : decode cX6_adds 18 = .ok (.isub, 1) := by decide +kernel
theorem dX6_adds_19 : decode cX6_adds 19 = .ok (.iaload, 1) := by decide +kernel
theorem dX6_adds_20 : decode cX6_adds 20 = .ok (.iload_n 1, 1) := by decide +kernel
theorem dX6_adds_21 : decode cX6_adds 21 = .ok (.if_icmp .le 41, 3) := by decide +kernel
theorem dX6_adds_24 : decode cX6_adds 24 = .ok (.aload_n 0, 1) := by decide +kernel
theorem dX6_adds_25 : decode cX6_adds 25 = .ok (.getfield 42, 3) := by decide +kernel
theorem dX6_adds_28 : decode cX6_adds 28 = .ok (.iload 4, 2) := by decide +kernel
theorem dX6_adds_30 : decode cX6_adds 30 = .ok (.aload_n 0, 1) := by decide +kernel
theorem dX6_adds_31 : decode cX6_adds 31 = .ok (.getfield 42, 3) := by decide +kernel
theorem dX6_adds_34 : decode cX6_adds 34 = .ok (.iload 4, 2) := by decide +kernel
theorem dX6_adds_36 : decode cX6_adds 36 = .ok (.iconst 1, 1) := by decide +kernel
theorem dX6_adds_37 : decode cX6_adds 37 = .ok (.isub, 1) := by decide +kernel
theorem dX6_adds_38 : decode cX6_adds 38 = .ok (.iaload, 1) := by decide +kernel
theorem dX6_adds_39 : decode cX6_adds 39 = .ok (.iastore, 1) := by decide +kernel
theorem dX6_adds_40 : decode cX6_adds 40 = .ok (.aload_n 0, 1) := by decide +kernel
theorem dX6_adds_41 : decode cX6_adds 41 = .ok (.getfield 45, 3) := by decide +kernel
theorem dX6_adds_44 : decode cX6_adds 44 = .ok (.iload 4, 2) := by decide +kernel
theorem dX6_adds_46 : decode cX6_adds 46 = .ok (.aload_n 0, 1) := by decide +kernel
theorem dX6_adds_47 : decode cX6_adds 47 = .ok (.getfield 45, 3) := by decide +kernel
theorem dX6_adds_50 : decode cX6_adds 50 = .ok (.iload 4, 2) := by decide +kernel
theorem dX6_adds_52 : decode cX6_adds 52 = .ok (.iconst 1, 1) := by decide +kernel
theorem dX6_adds_53 : decode cX6_adds 53 = .ok (.isub, 1) := by decide +kernel
theorem dX6_adds_54 : decode cX6_adds 54 = .ok (.laload, 1) := by decide +kernel
theorem dX6_adds_55 : decode cX6_adds 55 = .ok (.lastore, 1) := by decide +kernel
theorem dX6_adds_56 : decode cX6_adds 56 = .ok (.iinc 4 (-1), 3) := by decide +kernel
theorem dX6_adds_59 : decode cX6_adds 59 = .ok (.goto (-53), 3) := by decide +kernel
theorem dX6_adds_62 : decode cX6_adds 62 = .ok (.aload_n 0, 1) := by decide +kernel
theorem dX6_adds_63 : decode cX6_adds 63 = .ok (.getfield 42, 3) := by decide +kernel
theorem dX6_adds_66 : decode cX6_adds 66 = .ok (.iload 4, 2) := by decide +kernel
theorem dX6_adds_68 : decode cX6_adds 68 = .ok (.iload_n 1, 1) := by decide +kernel
theorem dX6_adds_69 : decode cX6_adds 69 = .ok (.iastore, 1) := by decide +kernel
theorem dX6_adds_70 : decode cX6_adds 70 = .ok (.aload_n 0, 1) := by decide +kernel
theorem dX6_adds_71 : decode cX6_adds 71 = .ok (.getfield 45, 3) := by decide +kernel
theorem dX6_adds_74 : decode cX6_adds 74 = .ok (.iload 4, 2) := by decide +kernel
theorem dX6_adds_76 : decode cX6_adds 76 = .ok (.lload_n 2, 1) := by decide +kernel
theorem dX6_adds_77 : decode cX6_adds 77 = .ok (.lastore, 1) := by decide +kernel
theorem dX6_adds_78 : decode cX6_adds 78 = .ok (.aload_n 0, 1) := by decide +kernel
theorem dX6_adds_79 : decode cX6_adds 79 = .ok (.dup, 1) := by decide +kernel
theorem dX6_adds_80 : decode cX6_adds 80 = .ok (.getfield 162, 3) := by decide +kernel
theorem dX6_adds_83 : decode cX6_adds 83 = .ok (.iconst 1, 1) := by decide +kernel
theorem dX6_adds_84 : decode cX6_adds 84 = .ok (.iadd, 1) := by decide +kernel
theorem dX6_adds_85 : decode cX6_adds 85 = .ok (.putfield 162, 3) := by decide +kernel
theorem dX6_adds_88 : decode cX6_adds 88 = .ok (.return_, 1) := by decide +kernel
set_option maxRecDepth 20000 in
theorem ggX6_findParts_X6_exponentAt : GoodIn wsX6_findParts wsX6_exponentAt := goodIn_r _ [10] (by decide +kernel) (by decide +kernel)
set_option maxRecDepth 20000 in
theorem gX6_findParts_X6_exponentAt : GoodIn wsX6_findParts (va_wsS RX6 103 yX6_exponentAt wsX6_exponentAt) := goodIn_app (goodIn_of _ (by decide +kernel)) ggX6_findParts_X6_exponentAt
set_option maxRecDepth 20000 in
theorem ggX6_findParts_X6_laysCode : GoodIn wsX6_findParts wsX6_laysCode := goodIn_r _ [14] (by decide +kernel) (by decide +kernel)
set_option maxRecDepth 20000 in
theorem gX6_findParts_X6_laysCode : GoodIn wsX6_findParts (wsV RX6 73 RX6 yX6_laysCode wsX6_laysCode) := goodIn_app (goodIn_of _ (by decide +kernel)) ggX6_findParts_X6_laysCode
set_option maxRecDepth 20000 in
theorem ggX6_findParts_X6_plainOf : GoodIn wsX6_findParts wsX6_plainOf := goodIn_r _ [17] (by decide +kernel) (by decide +kernel)
set_option maxRecDepth 20000 in
theorem gX6_findParts_X6_plainOf : GoodIn wsX6_findParts (va_wsS RX6 67 yX6_plainOf wsX6_plainOf) := goodIn_app (goodIn_of _ (by decide +kernel)) ggX6_findParts_X6_plainOf
set_option maxRecDepth 20000 in
theorem ggX6_findParts_X6_adds : GoodIn wsX6_findParts wsX6_adds := goodIn_r _ [21, 1, 22, 23, 46, 47, 48, 49, 50, 51, 52, 53, 54, 55, 56, 57, 58, 59, 60, 61] (by decide +kernel) (by decide +kernel)
set_option maxRecDepth 20000 in
theorem gX6_findParts_X6_adds : GoodIn wsX6_findParts (wsV RX6 166 RX6 yX6_adds wsX6_adds) := goodIn_app (goodIn_of _ (by decide +kernel)) ggX6_findParts_X6_adds
set_option maxRecDepth 20000 in
theorem ggX6_findParts_X6_findS : GoodIn wsX6_findParts wsX6_findS := goodIn_r _ [27, 28, 5, 29, 30, 9, 31, 32, 33, 34, 35, 36, 37, 38, 39, 40, 41, 42, 43, 44, 45, 7, 8, 10, 46, 47, 48, 49, 50, 51, 52, 53, 54, 55, 56, 57, 58, 59, 60, 61] (by decide +kernel) (by decide +kernel)
set_option maxRecDepth 20000 in
theorem gX6_findParts_X6_findS : GoodIn wsX6_findParts (wsV RX6 118 RX6 yX6_findS wsX6_findS) := goodIn_app (goodIn_of _ (by decide +kernel)) ggX6_findParts_X6_findS
theorem dX6_findParts_0 : decode cX6_findParts 0 = .ok (.aload_n 0, 1) := by decide +kernel
theorem dX6_findParts_1 : decode cX6_findParts 1 = .ok (.iconst 0, 1) := by decide +kernel
theorem dX6_findParts_2 : decode cX6_findParts 2 = .ok (.putfield 162, 3) := by decide +kernel
theorem dX6_findParts_5 : decode cX6_findParts 5 = .ok (.iconst 0, 1) := by decide +kernel
theorem dX6_findParts_6 : decode cX6_findParts 6 = .ok (.istore_n 1, 1) := by decide +kernel
theorem dX6_findParts_7 : decode cX6_findParts 7 = .ok (.iload_n 1, 1) := by decide +kernel
theorem dX6_findParts_8 : decode cX6_findParts 8 = .ok (.sipush 3024, 3) := by decide +kernel
theorem dX6_findParts_11 : decode cX6_findParts 11 = .ok (.if_icmp .ge 21, 3) := by decide +kernel
theorem dX6_findParts_14 : decode cX6_findParts 14 = .ok (.aload_n 0, 1) := by decide +kernel
theorem dX6_findParts_15 : decode cX6_findParts 15 = .ok (.getfield 35, 3) := by decide +kernel
theorem dX6_findParts_18 : decode cX6_findParts 18 = .ok (.iload_n 1, 1) := by decide +kernel
theorem dX6_findParts_19 : decode cX6_findParts 19 = .ok (.aload_n 0, 1) := by decide +kernel
theorem dX6_findParts_20 : decode cX6_findParts 20 = .ok (.getfield 32, 3) := by decide +kernel
theorem dX6_findParts_23 : decode cX6_findParts 23 = .ok (.iload_n 1, 1) := by decide +kernel
theorem dX6_findParts_24 : decode cX6_findParts 24 = .ok (.laload, 1) := by decide +kernel
theorem dX6_findParts_25 : decode cX6_findParts 25 = .ok (.lastore, 1) := by decide +kernel
theorem dX6_findParts_26 : decode cX6_findParts 26 = .ok (.iinc 1 1, 3) := by decide +kernel
theorem dX6_findParts_29 : decode cX6_findParts 29 = .ok (.goto (-22), 3) := by decide +kernel
theorem dX6_findParts_32 : decode cX6_findParts 32 = .ok (.iconst 0, 1) := by decide +kernel
theorem dX6_findParts_33 : decode cX6_findParts 33 = .ok (.istore_n 1, 1) := by decide +kernel
theorem dX6_findParts_34 : decode cX6_findParts 34 = .ok (.iload_n 1, 1) := by decide +kernel
theorem dX6_findParts_35 : decode cX6_findParts 35 = .ok (.sipush 3024, 3) := by decide +kernel
theorem dX6_findParts_38 : decode cX6_findParts 38 = .ok (.if_icmp .ge 106, 3) := by decide +kernel
theorem dX6_findParts_41 : decode cX6_findParts 41 = .ok (.aload_n 0, 1) := by decide +kernel
theorem dX6_findParts_42 : decode cX6_findParts 42 = .ok (.getfield 35, 3) := by decide +kernel
theorem dX6_findParts_45 : decode cX6_findParts 45 = .ok (.iload_n 1, 1) := by decide +kernel
theorem dX6_findParts_46 : decode cX6_findParts 46 = .ok (.laload, 1) := by decide +kernel
theorem dX6_findParts_47 : decode cX6_findParts 47 = .ok (.lstore_n 2, 1) := by decide +kernel
theorem dX6_findParts_48 : decode cX6_findParts 48 = .ok (.lload_n 2, 1) := by decide +kernel
theorem dX6_findParts_49 : decode cX6_findParts 49 = .ok (.lconst 0, 1) := by decide +kernel
theorem dX6_findParts_50 : decode cX6_findParts 50 = .ok (.lcmp, 1) := by decide +kernel
theorem dX6_findParts_51 : decode cX6_findParts 51 = .ok (.ifCond .eq 87, 3) := by decide +kernel
theorem dX6_findParts_54 : decode cX6_findParts 54 = .ok (.aload_n 0, 1) := by decide +kernel
theorem dX6_findParts_55 : decode cX6_findParts 55 = .ok (.iload_n 1, 1) := by decide +kernel
theorem dX6_findParts_56 : decode cX6_findParts 56 = .ok (.iconst 1, 1) := by decide +kernel
theorem dX6_findParts_57 : decode cX6_findParts 57 = .ok (.invokestatic 103, 3) := by decide +kernel
theorem dX6_findParts_60 : decode cX6_findParts 60 = .ok (.iload_n 1, 1) := by decide +kernel
theorem dX6_findParts_61 : decode cX6_findParts 61 = .ok (.iconst 2, 1) := by decide +kernel
theorem dX6_findParts_62 : decode cX6_findParts 62 = .ok (.invokestatic 103, 3) := by decide +kernel
theorem dX6_findParts_65 : decode cX6_findParts 65 = .ok (.iload_n 1, 1) := by decide +kernel
theorem dX6_findParts_66 : decode cX6_findParts 66 = .ok (.iconst 3, 1) := by decide +kernel
theorem dX6_findParts_67 : decode cX6_findParts 67 = .ok (.invokestatic 103, 3) := by decide +kernel
theorem dX6_findParts_70 : decode cX6_findParts 70 = .ok (.iload_n 1, 1) := by decide +kernel
theorem dX6_findParts_71 : decode cX6_findParts 71 = .ok (.iconst 4, 1) := by decide +kernel
theorem dX6_findParts_72 : decode cX6_findParts 72 = .ok (.invokestatic 103, 3) := by decide +kernel
theorem dX6_findParts_75 : decode cX6_findParts 75 = .ok (.aload_n 0, 1) := by decide +kernel
theorem dX6_findParts_76 : decode cX6_findParts 76 = .ok (.getfield 13, 3) := by decide +kernel
theorem dX6_findParts_79 : decode cX6_findParts 79 = .ok (.invokevirtual 73, 3) := by decide +kernel
theorem dX6_findParts_82 : decode cX6_findParts 82 = .ok (.aload_n 0, 1) := by decide +kernel
theorem dX6_findParts_83 : decode cX6_findParts 83 = .ok (.aload_n 0, 1) := by decide +kernel
theorem dX6_findParts_84 : decode cX6_findParts 84 = .ok (.getfield 13, 3) := by decide +kernel
theorem dX6_findParts_87 : decode cX6_findParts 87 = .ok (.invokestatic 67, 3) := by decide +kernel
theorem dX6_findParts_90 : decode cX6_findParts 90 = .ok (.lload_n 2, 1) := by decide +kernel
theorem dX6_findParts_91 : decode cX6_findParts 91 = .ok (.invokevirtual 166, 3) := by decide +kernel
theorem dX6_findParts_94 : decode cX6_findParts 94 = .ok (.aload_n 0, 1) := by decide +kernel
theorem dX6_findParts_95 : decode cX6_findParts 95 = .ok (.aload_n 0, 1) := by decide +kernel
theorem dX6_findParts_96 : decode cX6_findParts 96 = .ok (.getfield 13, 3) := by decide +kernel
theorem dX6_findParts_99 : decode cX6_findParts 99 = .ok (.invokevirtual 118, 3) := by decide +kernel
theorem dX6_findParts_102 : decode cX6_findParts 102 = .ok (.iload_n 1, 1) := by decide +kernel
theorem dX6_findParts_103 : decode cX6_findParts 103 = .ok (.istore 4, 2) := by decide +kernel
theorem dX6_findParts_105 : decode cX6_findParts 105 = .ok (.iload 4, 2) := by decide +kernel
theorem dX6_findParts_107 : decode cX6_findParts 107 = .ok (.sipush 3024, 3) := by decide +kernel
theorem dX6_findParts_110 : decode cX6_findParts 110 = .ok (.if_icmp .ge 28, 3) := by decide +kernel
theorem dX6_findParts_113 : decode cX6_findParts 113 = .ok (.aload_n 0, 1) := by decide +kernel
theorem dX6_findParts_114 : decode cX6_findParts 114 = .ok (.getfield 35, 3) := by decide +kernel
theorem dX6_findParts_117 : decode cX6_findParts 117 = .ok (.iload 4, 2) := by decide +kernel
theorem dX6_findParts_119 : decode cX6_findParts 119 = .ok (.dup2, 1) := by decide +kernel
theorem dX6_findParts_120 : decode cX6_findParts 120 = .ok (.laload, 1) := by decide +kernel
theorem dX6_findParts_121 : decode cX6_findParts 121 = .ok (.lload_n 2, 1) := by decide +kernel
theorem dX6_findParts_122 : decode cX6_findParts 122 = .ok (.aload_n 0, 1) := by decide +kernel
theorem dX6_findParts_123 : decode cX6_findParts 123 = .ok (.getfield 22, 3) := by decide +kernel
theorem dX6_findParts_126 : decode cX6_findParts 126 = .ok (.iload 4, 2) := by decide +kernel
theorem dX6_findParts_128 : decode cX6_findParts 128 = .ok (.laload, 1) := by decide +kernel
theorem dX6_findParts_129 : decode cX6_findParts 129 = .ok (.lmul, 1) := by decide +kernel
theorem dX6_findParts_130 : decode cX6_findParts 130 = .ok (.lsub, 1) := by decide +kernel
theorem dX6_findParts_131 : decode cX6_findParts 131 = .ok (.lastore, 1) := by decide +kernel
theorem dX6_findParts_132 : decode cX6_findParts 132 = .ok (.iinc 4 1, 3) := by decide +kernel
theorem dX6_findParts_135 : decode cX6_findParts 135 = .ok (.goto (-30), 3) := by decide +kernel
theorem dX6_findParts_138 : decode cX6_findParts 138 = .ok (.iinc 1 1, 3) := by decide +kernel
theorem dX6_findParts_141 : decode cX6_findParts 141 = .ok (.goto (-107), 3) := by decide +kernel
theorem dX6_findParts_144 : decode cX6_findParts 144 = .ok (.aload_n 0, 1) := by decide +kernel
theorem dX6_findParts_145 : decode cX6_findParts 145 = .ok (.iconst 1, 1) := by decide +kernel
theorem dX6_findParts_146 : decode cX6_findParts 146 = .ok (.putfield 144, 3) := by decide +kernel
theorem dX6_findParts_149 : decode cX6_findParts 149 = .ok (.return_, 1) := by decide +kernel
set_option maxRecDepth 20000 in
theorem ggX6_knowsParts_X6_findParts : GoodIn wsX6_knowsParts wsX6_findParts := goodIn_r _ [6, 7, 8, 9, 10, 11, 1, 12, 13, 5, 14, 15, 16, 17, 18, 19, 20, 21, 22, 23, 24, 25, 26, 27, 28, 29, 30, 31, 32, 33, 34, 35, 36, 37, 38, 39, 40, 41, 42, 43, 44, 45, 46, 47, 48, 49, 50, 51, 52, 53, 54, 55, 56, 57, 58, 59, 60, 61, 62, 63, 64, 65] (by decide +kernel) (by decide +kernel)
set_option maxRecDepth 20000 in
theorem gX6_knowsParts_X6_findParts : GoodIn wsX6_knowsParts (wsV RX6 170 RX6 yX6_findParts wsX6_findParts) := goodIn_app (goodIn_of _ (by decide +kernel)) ggX6_knowsParts_X6_findParts
theorem dX6_knowsParts_0 : decode cX6_knowsParts 0 = .ok (.aload_n 0, 1) := by decide +kernel
theorem dX6_knowsParts_1 : decode cX6_knowsParts 1 = .ok (.getfield 144, 3) := by decide +kernel
theorem dX6_knowsParts_4 : decode cX6_knowsParts 4 = .ok (.ifCond .ne 7, 3) := by decide +kernel
theorem dX6_knowsParts_7 : decode cX6_knowsParts 7 = .ok (.aload_n 0, 1) := by decide +kernel
theorem dX6_knowsParts_8 : decode cX6_knowsParts 8 = .ok (.invokevirtual 170, 3) := by decide +kernel
theorem dX6_knowsParts_11 : decode cX6_knowsParts 11 = .ok (.return_, 1) := by decide +kernel
set_option maxRecDepth 20000 in
theorem ggX6_part_X6_knowsParts : GoodIn wsX6_part wsX6_knowsParts := goodIn_r _ [7, 8, 9, 10, 11, 6, 12, 1, 13, 14, 15, 16, 17, 18, 19, 20, 21, 22, 23, 24, 25, 26, 27, 28, 29, 30, 2, 31, 32, 33, 34, 35, 36, 37, 38, 39, 40, 41, 42, 43, 44, 45, 46, 47, 48, 49, 50, 51, 52, 53, 54, 55, 56, 57, 58, 59, 60, 61, 62, 63, 64, 65, 66, 67, 68, 69] (by decide +kernel) (by decide +kernel)
set_option maxRecDepth 20000 in
theorem gX6_part_X6_knowsParts : GoodIn wsX6_part (wsV RX6 173 RX6 yX6_knowsParts wsX6_knowsParts) := goodIn_app (goodIn_of _ (by decide +kernel)) ggX6_part_X6_knowsParts
theorem dX6_part_0 : decode cX6_part 0 = .ok (.iload_n 1, 1) := by decide +kernel
theorem dX6_part_1 : decode cX6_part 1 = .ok (.iconst (-1), 1) := by decide +kernel
theorem dX6_part_2 : decode cX6_part 2 = .ok (.if_icmp .ge 6, 3) := by decide +kernel
theorem dX6_part_5 : decode cX6_part 5 = .ok (.bipush (-2), 2) := by decide +kernel
theorem dX6_part_7 : decode cX6_part 7 = .ok (.ireturn, 1) := by decide +kernel
theorem dX6_part_8 : decode cX6_part 8 = .ok (.aload_n 0, 1) := by decide +kernel
theorem dX6_part_9 : decode cX6_part 9 = .ok (.invokevirtual 173, 3) := by decide +kernel
theorem dX6_part_12 : decode cX6_part 12 = .ok (.iload_n 1, 1) := by decide +kernel
theorem dX6_part_13 : decode cX6_part 13 = .ok (.iconst (-1), 1) := by decide +kernel
theorem dX6_part_14 : decode cX6_part 14 = .ok (.if_icmp .ne 10, 3) := by decide +kernel
theorem dX6_part_17 : decode cX6_part 17 = .ok (.aload_n 0, 1) := by decide +kernel
theorem dX6_part_18 : decode cX6_part 18 = .ok (.getfield 162, 3) := by decide +kernel
theorem dX6_part_21 : decode cX6_part 21 = .ok (.goto 22, 3) := by decide +kernel
theorem dX6_part_24 : decode cX6_part 24 = .ok (.iload_n 1, 1) := by decide +kernel
theorem dX6_part_25 : decode cX6_part 25 = .ok (.aload_n 0, 1) := by decide +kernel
theorem dX6_part_26 : decode cX6_part 26 = .ok (.getfield 162, 3) := by decide +kernel
theorem dX6_part_29 : decode cX6_part 29 = .ok (.if_icmp .ge 12, 3) := by decide +kernel
theorem dX6_part_32 : decode cX6_part 32 = .ok (.aload_n 0, 1) := by decide +kernel
theorem dX6_part_33 : decode cX6_part 33 = .ok (.getfield 42, 3) := by decide +kernel
theorem dX6_part_36 : decode cX6_part 36 = .ok (.iload_n 1, 1) := by decide +kernel
theorem dX6_part_37 : decode cX6_part 37 = .ok (.iaload, 1) := by decide +kernel
theorem dX6_part_38 : decode cX6_part 38 = .ok (.goto 5, 3) := by decide +kernel
theorem dX6_part_41 : decode cX6_part 41 = .ok (.bipush (-9), 2) := by decide +kernel
theorem dX6_part_43 : decode cX6_part 43 = .ok (.ireturn, 1) := by decide +kernel
set_option maxRecDepth 20000 in
theorem ggX6_times_X6_lays : GoodIn wsX6_times wsX6_lays := goodIn_r _ [9, 10, 11, 8, 12] (by decide +kernel) (by decide +kernel)
set_option maxRecDepth 20000 in
theorem gX6_times_X6_lays : GoodIn wsX6_times (va_wsS RX6 63 yX6_lays wsX6_lays) := goodIn_app (goodIn_of _ (by decide +kernel)) ggX6_times_X6_lays
set_option maxRecDepth 20000 in
theorem ggX6_times_X6_isFit : GoodIn wsX6_times wsX6_isFit := goodIn_r _ [15, 16, 17, 8, 18] (by decide +kernel) (by decide +kernel)
set_option maxRecDepth 20000 in
theorem gX6_times_X6_isFit : GoodIn wsX6_times (va_wsS RX6 115 yX6_isFit wsX6_isFit) := goodIn_app (goodIn_of _ (by decide +kernel)) ggX6_times_X6_isFit
set_option maxRecDepth 20000 in
theorem ggX6_times_X6_knowsParts : GoodIn wsX6_times wsX6_knowsParts := goodIn_r _ [22, 23, 24, 25, 26, 8, 27, 3, 28, 29, 30, 31, 32, 33, 34, 35, 36, 37, 38, 39, 40, 41, 42, 43, 44, 45, 4, 5, 46, 47, 48, 49, 50, 51, 52, 53, 54, 55, 56, 57, 58, 59, 60, 61, 62, 63, 64, 65, 66, 67, 68, 69, 70, 71, 72, 73, 74, 75, 76, 77, 78, 79, 80, 81, 82, 83] (by decide +kernel) (by decide +kernel)
set_option maxRecDepth 20000 in
theorem gX6_times_X6_knowsParts : GoodIn wsX6_times (wsV RX6 173 RX6 yX6_knowsParts wsX6_knowsParts) := goodIn_app (goodIn_of _ (by decide +kernel)) ggX6_times_X6_knowsParts
set_option maxRecDepth 20000 in
theorem ggX6_times_X6_plainOf : GoodIn wsX6_times wsX6_plainOf := goodIn_r _ [41] (by decide +kernel) (by decide +kernel)
set_option maxRecDepth 20000 in
theorem gX6_times_X6_plainOf : GoodIn wsX6_times (va_wsS RX6 67 yX6_plainOf wsX6_plainOf) := goodIn_app (goodIn_of _ (by decide +kernel)) ggX6_times_X6_plainOf
theorem dX6_times_0 : decode cX6_times 0 = .ok (.iload_n 1, 1) := by decide +kernel
theorem dX6_times_1 : decode cX6_times 1 = .ok (.aload_n 0, 1) := by decide +kernel
theorem dX6_times_2 : decode cX6_times 2 = .ok (.getfield 7, 3) := by decide +kernel
theorem dX6_times_5 : decode cX6_times 5 = .ok (.invokestatic 63, 3) := by decide +kernel
theorem dX6_times_8 : decode cX6_times 8 = .ok (.ifCond .eq 13, 3) := by decide +kernel
theorem dX6_times_11 : decode cX6_times 11 = .ok (.aload_n 0, 1) := by decide +kernel
theorem dX6_times_12 : decode cX6_times 12 = .ok (.getfield 7, 3) := by decide +kernel
theorem dX6_times_15 : decode cX6_times 15 = .ok (.invokestatic 115, 3) := by decide +kernel
theorem dX6_times_18 : decode cX6_times 18 = .ok (.ifCond .ne 7, 3) := by decide +kernel
theorem dX6_times_21 : decode cX6_times 21 = .ok (.ldc2_w 134, 3) := by decide +kernel
theorem dX6_times_24 : decode cX6_times 24 = .ok (.lreturn, 1) := by decide +kernel
theorem dX6_times_25 : decode cX6_times 25 = .ok (.aload_n 0, 1) := by decide +kernel
theorem dX6_times_26 : decode cX6_times 26 = .ok (.invokevirtual 173, 3) := by decide +kernel
theorem dX6_times_29 : decode cX6_times 29 = .ok (.aload_n 0, 1) := by decide +kernel
theorem dX6_times_30 : decode cX6_times 30 = .ok (.getfield 7, 3) := by decide +kernel
theorem dX6_times_33 : decode cX6_times 33 = .ok (.invokestatic 67, 3) := by decide +kernel
theorem dX6_times_36 : decode cX6_times 36 = .ok (.istore_n 2, 1) := by decide +kernel
theorem dX6_times_37 : decode cX6_times 37 = .ok (.iconst 0, 1) := by decide +kernel
theorem dX6_times_38 : decode cX6_times 38 = .ok (.istore_n 3, 1) := by decide +kernel
theorem dX6_times_39 : decode cX6_times 39 = .ok (.iload_n 3, 1) := by decide +kernel
theorem dX6_times_40 : decode cX6_times 40 = .ok (.aload_n 0, 1) := by decide +kernel
theorem dX6_times_41 : decode cX6_times 41 = .ok (.getfield 162, 3) := by decide +kernel
theorem dX6_times_44 : decode cX6_times 44 = .ok (.if_icmp .ge 26, 3) := by decide +kernel
theorem dX6_times_47 : decode cX6_times 47 = .ok (.aload_n 0, 1) := by decide +kernel
theorem dX6_times_48 : decode cX6_times 48 = .ok (.getfield 42, 3) := by decide +kernel
theorem dX6_times_51 : decode cX6_times 51 = .ok (.iload_n 3, 1) := by decide +kernel
theorem dX6_times_52 : decode cX6_times 52 = .ok (.iaload, 1) := by decide +kernel
theorem dX6_times_53 : decode cX6_times 53 = .ok (.iload_n 2, 1) := by decide +kernel
theorem dX6_times_54 : decode cX6_times 54 = .ok (.if_icmp .ne 10, 3) := by decide +kernel
theorem dX6_times_57 : decode cX6_times 57 = .ok (.aload_n 0, 1) := by decide +kernel
theorem dX6_times_58 : decode cX6_times 58 = .ok (.getfield 45, 3) := by decide +kernel
theorem dX6_times_61 : decode cX6_times 61 = .ok (.iload_n 3, 1) := by decide +kernel
theorem dX6_times_62 : decode cX6_times 62 = .ok (.laload, 1) := by decide +kernel
theorem dX6_times_63 : decode cX6_times 63 = .ok (.lreturn, 1) := by decide +kernel
theorem dX6_times_64 : decode cX6_times 64 = .ok (.iinc 3 1, 3) := by decide +kernel
theorem dX6_times_67 : decode cX6_times 67 = .ok (.goto (-28), 3) := by decide +kernel
theorem dX6_times_70 : decode cX6_times 70 = .ok (.lconst 0, 1) := by decide +kernel
theorem dX6_times_71 : decode cX6_times 71 = .ok (.lreturn, 1) := by decide +kernel
theorem dX6_bitOf_0 : decode cX6_bitOf 0 = .ok (.iload_n 0, 1) := by decide +kernel
theorem dX6_bitOf_1 : decode cX6_bitOf 1 = .ok (.iconst 1, 1) := by decide +kernel
theorem dX6_bitOf_2 : decode cX6_bitOf 2 = .ok (.if_icmp .ne 9, 3) := by decide +kernel
theorem dX6_bitOf_5 : decode cX6_bitOf 5 = .ok (.iload_n 1, 1) := by decide +kernel
theorem dX6_bitOf_6 : decode cX6_bitOf 6 = .ok (.iconst 1, 1) := by decide +kernel
theorem dX6_bitOf_7 : decode cX6_bitOf 7 = .ok (.isub, 1) := by decide +kernel
theorem dX6_bitOf_8 : decode cX6_bitOf 8 = .ok (.goto 28, 3) := by decide +kernel
theorem dX6_bitOf_11 : decode cX6_bitOf 11 = .ok (.iload_n 0, 1) := by decide +kernel
theorem dX6_bitOf_12 : decode cX6_bitOf 12 = .ok (.iconst 2, 1) := by decide +kernel
theorem dX6_bitOf_13 : decode cX6_bitOf 13 = .ok (.if_icmp .ne 9, 3) := by decide +kernel
theorem dX6_bitOf_16 : decode cX6_bitOf 16 = .ok (.iload_n 1, 1) := by decide +kernel
theorem dX6_bitOf_17 : decode cX6_bitOf 17 = .ok (.iconst 3, 1) := by decide +kernel
theorem dX6_bitOf_18 : decode cX6_bitOf 18 = .ok (.iadd, 1) := by decide +kernel
theorem dX6_bitOf_19 : decode cX6_bitOf 19 = .ok (.goto 17, 3) := by decide +kernel
theorem dX6_bitOf_22 : decode cX6_bitOf 22 = .ok (.iload_n 0, 1) := by decide +kernel
theorem dX6_bitOf_23 : decode cX6_bitOf 23 = .ok (.iconst 3, 1) := by decide +kernel
theorem dX6_bitOf_24 : decode cX6_bitOf 24 = .ok (.if_icmp .ne 10, 3) := by decide +kernel
theorem dX6_bitOf_27 : decode cX6_bitOf 27 = .ok (.iload_n 1, 1) := by decide +kernel
theorem dX6_bitOf_28 : decode cX6_bitOf 28 = .ok (.bipush 6, 2) := by decide +kernel
theorem dX6_bitOf_30 : decode cX6_bitOf 30 = .ok (.iadd, 1) := by decide +kernel
theorem dX6_bitOf_31 : decode cX6_bitOf 31 = .ok (.goto 5, 3) := by decide +kernel
theorem dX6_bitOf_34 : decode cX6_bitOf 34 = .ok (.bipush 9, 2) := by decide +kernel
theorem dX6_bitOf_36 : decode cX6_bitOf 36 = .ok (.ireturn, 1) := by decide +kernel
set_option maxRecDepth 20000 in
theorem ggX6_isPlace_X6_within : GoodIn wsX6_isPlace wsX6_within := goodIn_r _ [4] (by decide +kernel) (by decide +kernel)
set_option maxRecDepth 20000 in
theorem gX6_isPlace_X6_within : GoodIn wsX6_isPlace (va_wsS RX6 51 yX6_within wsX6_within) := goodIn_app (goodIn_of _ (by decide +kernel)) ggX6_isPlace_X6_within
theorem dX6_isPlace_0 : decode cX6_isPlace 0 = .ok (.iload_n 0, 1) := by decide +kernel
theorem dX6_isPlace_1 : decode cX6_isPlace 1 = .ok (.iconst 1, 1) := by decide +kernel
theorem dX6_isPlace_2 : decode cX6_isPlace 2 = .ok (.iconst 4, 1) := by decide +kernel
theorem dX6_isPlace_3 : decode cX6_isPlace 3 = .ok (.invokestatic 51, 3) := by decide +kernel
theorem dX6_isPlace_6 : decode cX6_isPlace 6 = .ok (.ifCond .eq 18, 3) := by decide +kernel
theorem dX6_isPlace_9 : decode cX6_isPlace 9 = .ok (.iload_n 1, 1) := by decide +kernel
theorem dX6_isPlace_10 : decode cX6_isPlace 10 = .ok (.iconst 1, 1) := by decide +kernel
theorem dX6_isPlace_11 : decode cX6_isPlace 11 = .ok (.iconst 5, 1) := by decide +kernel
theorem dX6_isPlace_12 : decode cX6_isPlace 12 = .ok (.iload_n 0, 1) := by decide +kernel
theorem dX6_isPlace_13 : decode cX6_isPlace 13 = .ok (.isub, 1) := by decide +kernel
theorem dX6_isPlace_14 : decode cX6_isPlace 14 = .ok (.invokestatic 51, 3) := by decide +kernel
theorem dX6_isPlace_17 : decode cX6_isPlace 17 = .ok (.ifCond .eq 7, 3) := by decide +kernel
theorem dX6_isPlace_20 : decode cX6_isPlace 20 = .ok (.iconst 1, 1) := by decide +kernel
theorem dX6_isPlace_21 : decode cX6_isPlace 21 = .ok (.goto 4, 3) := by decide +kernel
theorem dX6_isPlace_24 : decode cX6_isPlace 24 = .ok (.iconst 0, 1) := by decide +kernel
theorem dX6_isPlace_25 : decode cX6_isPlace 25 = .ok (.ireturn, 1) := by decide +kernel
set_option maxRecDepth 20000 in
theorem ggX6_isCross_X6_isPlace : GoodIn wsX6_isCross wsX6_isPlace := goodIn_r _ [4, 5, 6, 3, 7] (by decide +kernel) (by decide +kernel)
set_option maxRecDepth 20000 in
theorem gX6_isCross_X6_isPlace : GoodIn wsX6_isCross (va_wsS RX6 176 yX6_isPlace wsX6_isPlace) := goodIn_app (goodIn_of _ (by decide +kernel)) ggX6_isCross_X6_isPlace
set_option maxRecDepth 20000 in
theorem ggX6_isCross_X6_bitOf : GoodIn wsX6_isCross wsX6_bitOf := goodIn_r _ [10] (by decide +kernel) (by decide +kernel)
set_option maxRecDepth 20000 in
theorem gX6_isCross_X6_bitOf : GoodIn wsX6_isCross (va_wsS RX6 180 yX6_bitOf wsX6_bitOf) := goodIn_app (goodIn_of _ (by decide +kernel)) ggX6_isCross_X6_bitOf
theorem dX6_isCross_0 : decode cX6_isCross 0 = .ok (.iload_n 1, 1) := by decide +kernel
theorem dX6_isCross_1 : decode cX6_isCross 1 = .ok (.iload_n 2, 1) := by decide +kernel
theorem dX6_isCross_2 : decode cX6_isCross 2 = .ok (.invokestatic 176, 3) := by decide +kernel
theorem dX6_isCross_5 : decode cX6_isCross 5 = .ok (.ifCond .eq 20, 3) := by decide +kernel
theorem dX6_isCross_8 : decode cX6_isCross 8 = .ok (.iload_n 0, 1) := by decide +kernel
theorem dX6_isCross_9 : decode cX6_isCross 9 = .ok (.iload_n 1, 1) := by decide +kernel
theorem dX6_isCross_10 : decode cX6_isCross 10 = .ok (.iload_n 2, 1) := by decide +kernel
theorem dX6_isCross_11 : decode cX6_isCross 11 = .ok (.invokestatic 180, 3) := by decide +kernel
theorem dX6_isCross_14 : decode cX6_isCross 14 = .ok (.ishr, 1) := by decide +kernel
theorem dX6_isCross_15 : decode cX6_isCross 15 = .ok (.iconst 1, 1) := by decide +kernel
theorem dX6_isCross_16 : decode cX6_isCross 16 = .ok (.iand, 1) := by decide +kernel
theorem dX6_isCross_17 : decode cX6_isCross 17 = .ok (.iconst 1, 1) := by decide +kernel
theorem dX6_isCross_18 : decode cX6_isCross 18 = .ok (.if_icmp .ne 7, 3) := by decide +kernel
theorem dX6_isCross_21 : decode cX6_isCross 21 = .ok (.iconst 1, 1) := by decide +kernel
theorem dX6_isCross_22 : decode cX6_isCross 22 = .ok (.goto 4, 3) := by decide +kernel
theorem dX6_isCross_25 : decode cX6_isCross 25 = .ok (.iconst 0, 1) := by decide +kernel
theorem dX6_isCross_26 : decode cX6_isCross 26 = .ok (.ireturn, 1) := by decide +kernel
set_option maxRecDepth 20000 in
theorem ggX6_areTight_X6_isCross : GoodIn wsX6_areTight wsX6_isCross := goodIn_r _ [5, 6, 7, 4, 8, 9, 10, 11, 12, 13, 14] (by decide +kernel) (by decide +kernel)
set_option maxRecDepth 20000 in
theorem gX6_areTight_X6_isCross : GoodIn wsX6_areTight (va_wsS RX6 183 yX6_isCross wsX6_isCross) := goodIn_app (goodIn_of _ (by decide +kernel)) ggX6_areTight_X6_isCross
set_option maxRecDepth 20000 in
theorem ggX6_areTight_X6_exchange : GoodIn wsX6_areTight wsX6_exchange := goodIn_r _ [17] (by decide +kernel) (by decide +kernel)
set_option maxRecDepth 20000 in
theorem gX6_areTight_X6_exchange : GoodIn wsX6_areTight (va_wsS RX6 85 yX6_exchange wsX6_exchange) := goodIn_app (goodIn_of _ (by decide +kernel)) ggX6_areTight_X6_exchange
set_option maxRecDepth 20000 in
theorem ggX6_areTight_X6_lengthOf : GoodIn wsX6_areTight wsX6_lengthOf := goodIn_r _ [20, 21, 22, 4, 23] (by decide +kernel) (by decide +kernel)
set_option maxRecDepth 20000 in
theorem gX6_areTight_X6_lengthOf : GoodIn wsX6_areTight (va_wsS RX6 70 yX6_lengthOf wsX6_lengthOf) := goodIn_app (goodIn_of _ (by decide +kernel)) ggX6_areTight_X6_lengthOf
theorem dX6_areTight_0 : decode cX6_areTight 0 = .ok (.iconst 0, 1) := by decide +kernel
theorem dX6_areTight_1 : decode cX6_areTight 1 = .ok (.istore_n 2, 1) := by decide +kernel
theorem dX6_areTight_2 : decode cX6_areTight 2 = .ok (.iconst 1, 1) := by decide +kernel
theorem dX6_areTight_3 : decode cX6_areTight 3 = .ok (.istore_n 3, 1) := by decide +kernel
theorem dX6_areTight_4 : decode cX6_areTight 4 = .ok (.iload_n 3, 1) := by decide +kernel
theorem dX6_areTight_5 : decode cX6_areTight 5 = .ok (.bipush 9, 2) := by decide +kernel
theorem dX6_areTight_7 : decode cX6_areTight 7 = .ok (.if_icmp .gt 16, 3) := by decide +kernel
theorem dX6_areTight_10 : decode cX6_areTight 10 = .ok (.aload_n 0, 1) := by decide +kernel
theorem dX6_areTight_11 : decode cX6_areTight 11 = .ok (.getfield 13, 3) := by decide +kernel
theorem dX6_areTight_14 : decode cX6_areTight 14 = .ok (.iload_n 3, 1) := by decide +kernel
theorem dX6_areTight_15 : decode cX6_areTight 15 = .ok (.iload_n 3, 1) := by decide +kernel
theorem dX6_areTight_16 : decode cX6_areTight 16 = .ok (.iastore, 1) := by decide +kernel
theorem dX6_areTight_17 : decode cX6_areTight 17 = .ok (.iinc 3 1, 3) := by decide +kernel
theorem dX6_areTight_20 : decode cX6_areTight 20 = .ok (.goto (-16), 3) := by decide +kernel
theorem dX6_areTight_23 : decode cX6_areTight 23 = .ok (.iconst 1, 1) := by decide +kernel
theorem dX6_areTight_24 : decode cX6_areTight 24 = .ok (.istore_n 3, 1) := by decide +kernel
theorem dX6_areTight_25 : decode cX6_areTight 25 = .ok (.iload_n 3, 1) := by decide +kernel
theorem dX6_areTight_26 : decode cX6_areTight 26 = .ok (.iconst 4, 1) := by decide +kernel
theorem dX6_areTight_27 : decode cX6_areTight 27 = .ok (.if_icmp .gt 55, 3) := by decide +kernel
theorem dX6_areTight_30 : decode cX6_areTight 30 = .ok (.iconst 5, 1) := by decide +kernel
theorem dX6_areTight_31 : decode cX6_areTight 31 = .ok (.iload_n 3, 1) := by decide +kernel
theorem dX6_areTight_32 : decode cX6_areTight 32 = .ok (.isub, 1) := by decide +kernel
theorem dX6_areTight_33 : decode cX6_areTight 33 = .ok (.istore 4, 2) := by decide +kernel
theorem dX6_areTight_35 : decode cX6_areTight 35 = .ok (.iload 4, 2) := by decide +kernel
theorem dX6_areTight_37 : decode cX6_areTight 37 = .ok (.ifCond .le 39, 3) := by decide +kernel
theorem dX6_areTight_40 : decode cX6_areTight 40 = .ok (.iload_n 1, 1) := by decide +kernel
theorem dX6_areTight_41 : decode cX6_areTight 41 = .ok (.iload_n 3, 1) := by decide +kernel
theorem dX6_areTight_42 : decode cX6_areTight 42 = .ok (.iload 4, 2) := by decide +kernel
theorem dX6_areTight_44 : decode cX6_areTight 44 = .ok (.invokestatic 183, 3) := by decide +kernel
theorem dX6_areTight_47 : decode cX6_areTight 47 = .ok (.ifCond .eq 23, 3) := by decide +kernel
theorem dX6_areTight_50 : decode cX6_areTight 50 = .ok (.aload_n 0, 1) := by decide +kernel
theorem dX6_areTight_51 : decode cX6_areTight 51 = .ok (.getfield 13, 3) := by decide +kernel
theorem dX6_areTight_54 : decode cX6_areTight 54 = .ok (.iload_n 3, 1) := by decide +kernel
theorem dX6_areTight_55 : decode cX6_areTight 55 = .ok (.iload 4, 2) := by decide +kernel
theorem dX6_areTight_57 : decode cX6_areTight 57 = .ok (.iadd, 1) := by decide +kernel
theorem dX6_areTight_58 : decode cX6_areTight 58 = .ok (.iconst 1, 1) := by decide +kernel
theorem dX6_areTight_59 : decode cX6_areTight 59 = .ok (.isub, 1) := by decide +kernel
theorem dX6_areTight_60 : decode cX6_areTight 60 = .ok (.iload_n 3, 1) := by decide +kernel
theorem dX6_areTight_61 : decode cX6_areTight 61 = .ok (.iload 4, 2) := by decide +kernel
theorem dX6_areTight_63 : decode cX6_areTight 63 = .ok (.iadd, 1) := by decide +kernel
theorem dX6_areTight_64 : decode cX6_areTight 64 = .ok (.invokestatic 85, 3) := by decide +kernel
theorem dX6_areTight_67 : decode cX6_areTight 67 = .ok (.iinc 2 1, 3) := by decide +kernel
theorem dX6_areTight_70 : decode cX6_areTight 70 = .ok (.iinc 4 (-1), 3) := by decide +kernel
theorem dX6_areTight_73 : decode cX6_areTight 73 = .ok (.goto (-38), 3) := by decide +kernel
theorem dX6_areTight_76 : decode cX6_areTight 76 = .ok (.iinc 3 1, 3) := by decide +kernel
theorem dX6_areTight_79 : decode cX6_areTight 79 = .ok (.goto (-54), 3) := by decide +kernel
theorem dX6_areTight_82 : decode cX6_areTight 82 = .ok (.aload_n 0, 1) := by decide +kernel
theorem dX6_areTight_83 : decode cX6_areTight 83 = .ok (.getfield 13, 3) := by decide +kernel
theorem dX6_areTight_86 : decode cX6_areTight 86 = .ok (.invokestatic 70, 3) := by decide +kernel
theorem dX6_areTight_89 : decode cX6_areTight 89 = .ok (.iload_n 2, 1) := by decide +kernel
theorem dX6_areTight_90 : decode cX6_areTight 90 = .ok (.if_icmp .ne 7, 3) := by decide +kernel
theorem dX6_areTight_93 : decode cX6_areTight 93 = .ok (.iconst 1, 1) := by decide +kernel
theorem dX6_areTight_94 : decode cX6_areTight 94 = .ok (.goto 4, 3) := by decide +kernel
theorem dX6_areTight_97 : decode cX6_areTight 97 = .ok (.iconst 0, 1) := by decide +kernel
theorem dX6_areTight_98 : decode cX6_areTight 98 = .ok (.ireturn, 1) := by decide +kernel
set_option maxRecDepth 20000 in
theorem ggX6_makes_X6_within : GoodIn wsX6_makes wsX6_within := goodIn_r _ [5] (by decide +kernel) (by decide +kernel)
set_option maxRecDepth 20000 in
theorem gX6_makes_X6_within : GoodIn wsX6_makes (va_wsS RX6 51 yX6_within wsX6_within) := goodIn_app (goodIn_of _ (by decide +kernel)) ggX6_makes_X6_within
set_option maxRecDepth 20000 in
theorem ggX6_makes_X6_areTight : GoodIn wsX6_makes wsX6_areTight := goodIn_r _ [9, 1, 10, 11, 4, 12, 13, 14, 15, 2, 3, 5, 16, 17, 18, 19, 20, 21, 22, 23, 24, 25, 26, 27, 31, 32, 33, 34, 35, 36, 37, 38, 39, 40, 41, 42, 43, 44, 45, 46] (by decide +kernel) (by decide +kernel)
set_option maxRecDepth 20000 in
theorem gX6_makes_X6_areTight : GoodIn wsX6_makes (wsV RX6 186 RX6 yX6_areTight wsX6_areTight) := goodIn_app (goodIn_of _ (by decide +kernel)) ggX6_makes_X6_areTight
set_option maxRecDepth 20000 in
theorem ggX6_makes_X6_plainOf : GoodIn wsX6_makes wsX6_plainOf := goodIn_r _ [30] (by decide +kernel) (by decide +kernel)
set_option maxRecDepth 20000 in
theorem gX6_makes_X6_plainOf : GoodIn wsX6_makes (va_wsS RX6 67 yX6_plainOf wsX6_plainOf) := goodIn_app (goodIn_of _ (by decide +kernel)) ggX6_makes_X6_plainOf
theorem dX6_makes_0 : decode cX6_makes 0 = .ok (.iload_n 1, 1) := by decide +kernel
theorem dX6_makes_1 : decode cX6_makes 1 = .ok (.iconst 0, 1) := by decide +kernel
theorem dX6_makes_2 : decode cX6_makes 2 = .ok (.sipush 1023, 3) := by decide +kernel
theorem dX6_makes_5 : decode cX6_makes 5 = .ok (.invokestatic 51, 3) := by decide +kernel
theorem dX6_makes_8 : decode cX6_makes 8 = .ok (.ifCond .ne 6, 3) := by decide +kernel
theorem dX6_makes_11 : decode cX6_makes 11 = .ok (.bipush (-2), 2) := by decide +kernel
theorem dX6_makes_13 : decode cX6_makes 13 = .ok (.ireturn, 1) := by decide +kernel
theorem dX6_makes_14 : decode cX6_makes 14 = .ok (.aload_n 0, 1) := by decide +kernel
theorem dX6_makes_15 : decode cX6_makes 15 = .ok (.iload_n 1, 1) := by decide +kernel
theorem dX6_makes_16 : decode cX6_makes 16 = .ok (.invokevirtual 186, 3) := by decide +kernel
theorem dX6_makes_19 : decode cX6_makes 19 = .ok (.ifCond .eq 13, 3) := by decide +kernel
theorem dX6_makes_22 : decode cX6_makes 22 = .ok (.aload_n 0, 1) := by decide +kernel
theorem dX6_makes_23 : decode cX6_makes 23 = .ok (.getfield 13, 3) := by decide +kernel
theorem dX6_makes_26 : decode cX6_makes 26 = .ok (.invokestatic 67, 3) := by decide +kernel
theorem dX6_makes_29 : decode cX6_makes 29 = .ok (.goto 5, 3) := by decide +kernel
theorem dX6_makes_32 : decode cX6_makes 32 = .ok (.bipush (-9), 2) := by decide +kernel
theorem dX6_makes_34 : decode cX6_makes 34 = .ok (.ireturn, 1) := by decide +kernel
set_option maxRecDepth 20000 in
theorem ggX6_dream_X6_lays : GoodIn wsX6_dream wsX6_lays := goodIn_r _ [6, 7, 8, 5, 9] (by decide +kernel) (by decide +kernel)
set_option maxRecDepth 20000 in
theorem gX6_dream_X6_lays : GoodIn wsX6_dream (va_wsS RX6 63 yX6_lays wsX6_lays) := goodIn_app (goodIn_of _ (by decide +kernel)) ggX6_dream_X6_lays
set_option maxRecDepth 20000 in
theorem ggX6_dream_X6_isSmall : GoodIn wsX6_dream wsX6_isSmall := goodIn_r _ [12] (by decide +kernel) (by decide +kernel)
set_option maxRecDepth 20000 in
theorem gX6_dream_X6_isSmall : GoodIn wsX6_dream (va_wsS RX6 92 yX6_isSmall wsX6_isSmall) := goodIn_app (goodIn_of _ (by decide +kernel)) ggX6_dream_X6_isSmall
set_option maxRecDepth 20000 in
theorem ggX6_dream_X6_plainOf : GoodIn wsX6_dream wsX6_plainOf := goodIn_r _ [15] (by decide +kernel) (by decide +kernel)
set_option maxRecDepth 20000 in
theorem gX6_dream_X6_plainOf : GoodIn wsX6_dream (va_wsS RX6 67 yX6_plainOf wsX6_plainOf) := goodIn_app (goodIn_of _ (by decide +kernel)) ggX6_dream_X6_plainOf
set_option maxRecDepth 20000 in
theorem ggX6_dream_X6_areTight : GoodIn wsX6_dream wsX6_areTight := goodIn_r _ [19, 2, 20, 21, 5, 22, 23, 24, 25, 7, 8, 9, 26, 27, 28, 29, 30, 31, 32, 33, 34, 35, 36, 37, 38, 39, 40, 41, 42, 43, 44, 45, 46, 47, 48, 49, 50, 51, 52, 53] (by decide +kernel) (by decide +kernel)
set_option maxRecDepth 20000 in
theorem gX6_dream_X6_areTight : GoodIn wsX6_dream (wsV RX6 186 RX6 yX6_areTight wsX6_areTight) := goodIn_app (goodIn_of _ (by decide +kernel)) ggX6_dream_X6_areTight
theorem dX6_dream_0 : decode cX6_dream 0 = .ok (.iload_n 1, 1) := by decide +kernel
theorem dX6_dream_1 : decode cX6_dream 1 = .ok (.aload_n 0, 1) := by decide +kernel
theorem dX6_dream_2 : decode cX6_dream 2 = .ok (.getfield 7, 3) := by decide +kernel
theorem dX6_dream_5 : decode cX6_dream 5 = .ok (.invokestatic 63, 3) := by decide +kernel
theorem dX6_dream_8 : decode cX6_dream 8 = .ok (.ifCond .eq 8, 3) := by decide +kernel
theorem dX6_dream_11 : decode cX6_dream 11 = .ok (.iload_n 2, 1) := by decide +kernel
theorem dX6_dream_12 : decode cX6_dream 12 = .ok (.iconst (-1), 1) := by decide +kernel
theorem dX6_dream_13 : decode cX6_dream 13 = .ok (.if_icmp .ge 6, 3) := by decide +kernel
theorem dX6_dream_16 : decode cX6_dream 16 = .ok (.bipush (-2), 2) := by decide +kernel
theorem dX6_dream_18 : decode cX6_dream 18 = .ok (.ireturn, 1) := by decide +kernel
theorem dX6_dream_19 : decode cX6_dream 19 = .ok (.aload_n 0, 1) := by decide +kernel
theorem dX6_dream_20 : decode cX6_dream 20 = .ok (.getfield 7, 3) := by decide +kernel
theorem dX6_dream_23 : decode cX6_dream 23 = .ok (.invokestatic 92, 3) := by decide +kernel
theorem dX6_dream_26 : decode cX6_dream 26 = .ok (.ifCond .ne 6, 3) := by decide +kernel
theorem dX6_dream_29 : decode cX6_dream 29 = .ok (.bipush (-3), 2) := by decide +kernel
theorem dX6_dream_31 : decode cX6_dream 31 = .ok (.ireturn, 1) := by decide +kernel
theorem dX6_dream_32 : decode cX6_dream 32 = .ok (.aload_n 0, 1) := by decide +kernel
theorem dX6_dream_33 : decode cX6_dream 33 = .ok (.getfield 7, 3) := by decide +kernel
theorem dX6_dream_36 : decode cX6_dream 36 = .ok (.invokestatic 67, 3) := by decide +kernel
theorem dX6_dream_39 : decode cX6_dream 39 = .ok (.istore_n 3, 1) := by decide +kernel
theorem dX6_dream_40 : decode cX6_dream 40 = .ok (.iconst 0, 1) := by decide +kernel
theorem dX6_dream_41 : decode cX6_dream 41 = .ok (.istore 4, 2) := by decide +kernel
theorem dX6_dream_43 : decode cX6_dream 43 = .ok (.iconst 0, 1) := by decide +kernel
theorem dX6_dream_44 : decode cX6_dream 44 = .ok (.istore 5, 2) := by decide +kernel
theorem dX6_dream_46 : decode cX6_dream 46 = .ok (.iload 5, 2) := by decide +kernel
theorem dX6_dream_48 : decode cX6_dream 48 = .ok (.sipush 1023, 3) := by decide +kernel
theorem dX6_dream_51 : decode cX6_dream 51 = .ok (.if_icmp .gt 41, 3) := by decide +kernel
theorem dX6_dream_54 : decode cX6_dream 54 = .ok (.aload_n 0, 1) := by decide +kernel
theorem dX6_dream_55 : decode cX6_dream 55 = .ok (.iload 5, 2) := by decide +kernel
theorem dX6_dream_57 : decode cX6_dream 57 = .ok (.invokevirtual 186, 3) := by decide +kernel
theorem dX6_dream_60 : decode cX6_dream 60 = .ok (.ifCond .eq 26, 3) := by decide +kernel
theorem dX6_dream_63 : decode cX6_dream 63 = .ok (.aload_n 0, 1) := by decide +kernel
theorem dX6_dream_64 : decode cX6_dream 64 = .ok (.getfield 13, 3) := by decide +kernel
theorem dX6_dream_67 : decode cX6_dream 67 = .ok (.invokestatic 67, 3) := by decide +kernel
theorem dX6_dream_70 : decode cX6_dream 70 = .ok (.iload_n 3, 1) := by decide +kernel
theorem dX6_dream_71 : decode cX6_dream 71 = .ok (.if_icmp .ne 15, 3) := by decide +kernel
theorem dX6_dream_74 : decode cX6_dream 74 = .ok (.iload 4, 2) := by decide +kernel
theorem dX6_dream_76 : decode cX6_dream 76 = .ok (.iload_n 2, 1) := by decide +kernel
theorem dX6_dream_77 : decode cX6_dream 77 = .ok (.if_icmp .ne 6, 3) := by decide +kernel
theorem dX6_dream_80 : decode cX6_dream 80 = .ok (.iload 5, 2) := by decide +kernel
theorem dX6_dream_82 : decode cX6_dream 82 = .ok (.ireturn, 1) := by decide +kernel
theorem dX6_dream_83 : decode cX6_dream 83 = .ok (.iinc 4 1, 3) := by decide +kernel
theorem dX6_dream_86 : decode cX6_dream 86 = .ok (.iinc 5 1, 3) := by decide +kernel
theorem dX6_dream_89 : decode cX6_dream 89 = .ok (.goto (-43), 3) := by decide +kernel
theorem dX6_dream_92 : decode cX6_dream 92 = .ok (.iload_n 2, 1) := by decide +kernel
theorem dX6_dream_93 : decode cX6_dream 93 = .ok (.iconst (-1), 1) := by decide +kernel
theorem dX6_dream_94 : decode cX6_dream 94 = .ok (.if_icmp .ne 8, 3) := by decide +kernel
theorem dX6_dream_97 : decode cX6_dream 97 = .ok (.iload 4, 2) := by decide +kernel
theorem dX6_dream_99 : decode cX6_dream 99 = .ok (.goto 5, 3) := by decide +kernel
theorem dX6_dream_102 : decode cX6_dream 102 = .ok (.bipush (-9), 2) := by decide +kernel
theorem dX6_dream_104 : decode cX6_dream 104 = .ok (.ireturn, 1) := by decide +kernel
theorem dX6_finds_0 : decode cX6_finds 0 = .ok (.iconst 0, 1) := by decide +kernel
theorem dX6_finds_1 : decode cX6_finds 1 = .ok (.istore_n 2, 1) := by decide +kernel
theorem dX6_finds_2 : decode cX6_finds 2 = .ok (.iload_n 2, 1) := by decide +kernel
theorem dX6_finds_3 : decode cX6_finds 3 = .ok (.aload_n 0, 1) := by decide +kernel
theorem dX6_finds_4 : decode cX6_finds 4 = .ok (.getfield 189, 3) := by decide +kernel
theorem dX6_finds_7 : decode cX6_finds 7 = .ok (.if_icmp .ge 19, 3) := by decide +kernel
theorem dX6_finds_10 : decode cX6_finds 10 = .ok (.aload_n 0, 1) := by decide +kernel
theorem dX6_finds_11 : decode cX6_finds 11 = .ok (.getfield 48, 3) := by decide +kernel
theorem dX6_finds_14 : decode cX6_finds 14 = .ok (.iload_n 2, 1) := by decide +kernel
theorem dX6_finds_15 : decode cX6_finds 15 = .ok (.iaload, 1) := by decide +kernel
theorem dX6_finds_16 : decode cX6_finds 16 = .ok (.iload_n 1, 1) := by decide +kernel
theorem dX6_finds_17 : decode cX6_finds 17 = .ok (.if_icmp .ge 9, 3) := by decide +kernel
theorem dX6_finds_20 : decode cX6_finds 20 = .ok (.iinc 2 1, 3) := by decide +kernel
theorem dX6_finds_23 : decode cX6_finds 23 = .ok (.goto (-21), 3) := by decide +kernel
theorem dX6_finds_26 : decode cX6_finds 26 = .ok (.iload_n 2, 1) := by decide +kernel
theorem dX6_finds_27 : decode cX6_finds 27 = .ok (.aload_n 0, 1) := by decide +kernel
theorem dX6_finds_28 : decode cX6_finds 28 = .ok (.getfield 189, 3) := by decide +kernel
theorem dX6_finds_31 : decode cX6_finds 31 = .ok (.if_icmp .ge 14, 3) := by decide +kernel
theorem dX6_finds_34 : decode cX6_finds 34 = .ok (.aload_n 0, 1) := by decide +kernel
theorem dX6_finds_35 : decode cX6_finds 35 = .ok (.getfield 48, 3) := by decide +kernel
theorem dX6_finds_38 : decode cX6_finds 38 = .ok (.iload_n 2, 1) := by decide +kernel
theorem dX6_finds_39 : decode cX6_finds 39 = .ok (.iaload, 1) := by decide +kernel
theorem dX6_finds_40 : decode cX6_finds 40 = .ok (.iload_n 1, 1) := by decide +kernel
theorem dX6_finds_41 : decode cX6_finds 41 = .ok (.if_icmp .ne 4, 3) := by decide +kernel
theorem dX6_finds_44 : decode cX6_finds 44 = .ok (.return_, 1) := by decide +kernel
theorem dX6_finds_45 : decode cX6_finds 45 = .ok (.aload_n 0, 1) := by decide +kernel
theorem dX6_finds_46 : decode cX6_finds 46 = .ok (.getfield 189, 3) := by decide +kernel
theorem dX6_finds_49 : decode cX6_finds 49 = .ok (.istore_n 3, 1) := by decide +kernel
theorem dX6_finds_50 : decode cX6_finds 50 = .ok (.iload_n 3, 1) := by decide +kernel
theorem dX6_finds_51 : decode cX6_finds 51 = .ok (.iload_n 2, 1) := by decide +kernel
theorem dX6_finds_52 : decode cX6_finds 52 = .ok (.if_icmp .le 23, 3) := by decide +kernel
theorem dX6_finds_55 : decode cX6_finds 55 = .ok (.aload_n 0, 1) := by decide +kernel
theorem dX6_finds_56 : decode cX6_finds 56 = .ok (.getfield 48, 3) := by decide +kernel
theorem dX6_finds_59 : decode cX6_finds 59 = .ok (.iload_n 3, 1) := by decide +kernel
theorem dX6_finds_60 : decode cX6_finds 60 = .ok (.aload_n 0, 1) := by decide +kernel
theorem dX6_finds_61 : decode cX6_finds 61 = .ok (.getfield 48, 3) := by decide +kernel
theorem dX6_finds_64 : decode cX6_finds 64 = .ok (.iload_n 3, 1) := by decide +kernel
theorem dX6_finds_65 : decode cX6_finds 65 = .ok (.iconst 1, 1) := by decide +kernel
theorem dX6_finds_66 : decode cX6_finds 66 = .ok (.isub, 1) := by decide +kernel
theorem dX6_finds_67 : decode cX6_finds 67 = .ok (.iaload, 1) := by decide +kernel
theorem dX6_finds_68 : decode cX6_finds 68 = .ok (.iastore, 1) := by decide +kernel
theorem dX6_finds_69 : decode cX6_finds 69 = .ok (.iinc 3 (-1), 3) := by decide +kernel
theorem dX6_finds_72 : decode cX6_finds 72 = .ok (.goto (-22), 3) := by decide +kernel
theorem dX6_finds_75 : decode cX6_finds 75 = .ok (.aload_n 0, 1) := by decide +kernel
theorem dX6_finds_76 : decode cX6_finds 76 = .ok (.getfield 48, 3) := by decide +kernel
theorem dX6_finds_79 : decode cX6_finds 79 = .ok (.iload_n 2, 1) := by decide +kernel
theorem dX6_finds_80 : decode cX6_finds 80 = .ok (.iload_n 1, 1) := by decide +kernel
theorem dX6_finds_81 : decode cX6_finds 81 = .ok (.iastore, 1) := by decide +kernel
theorem dX6_finds_82 : decode cX6_finds 82 = .ok (.aload_n 0, 1) := by decide +kernel
theorem dX6_finds_83 : decode cX6_finds 83 = .ok (.dup, 1) := by decide +kernel
theorem dX6_finds_84 : decode cX6_finds 84 = .ok (.getfield 189, 3) := by decide +kernel
theorem dX6_finds_87 : decode cX6_finds 87 = .ok (.iconst 1, 1) := by decide +kernel
theorem dX6_finds_88 : decode cX6_finds 88 = .ok (.iadd, 1) := by decide +kernel
theorem dX6_finds_89 : decode cX6_finds 89 = .ok (.putfield 189, 3) := by decide +kernel
theorem dX6_finds_92 : decode cX6_finds 92 = .ok (.return_, 1) := by decide +kernel
theorem dX6_foundBy_0 : decode cX6_foundBy 0 = .ok (.iload_n 1, 1) := by decide +kernel
theorem dX6_foundBy_1 : decode cX6_foundBy 1 = .ok (.iconst (-1), 1) := by decide +kernel
theorem dX6_foundBy_2 : decode cX6_foundBy 2 = .ok (.if_icmp .ne 10, 3) := by decide +kernel
theorem dX6_foundBy_5 : decode cX6_foundBy 5 = .ok (.aload_n 0, 1) := by decide +kernel
theorem dX6_foundBy_6 : decode cX6_foundBy 6 = .ok (.getfield 189, 3) := by decide +kernel
theorem dX6_foundBy_9 : decode cX6_foundBy 9 = .ok (.goto 22, 3) := by decide +kernel
theorem dX6_foundBy_12 : decode cX6_foundBy 12 = .ok (.iload_n 1, 1) := by decide +kernel
theorem dX6_foundBy_13 : decode cX6_foundBy 13 = .ok (.aload_n 0, 1) := by decide +kernel
theorem dX6_foundBy_14 : decode cX6_foundBy 14 = .ok (.getfield 189, 3) := by decide +kernel
theorem dX6_foundBy_17 : decode cX6_foundBy 17 = .ok (.if_icmp .ge 12, 3) := by decide +kernel
theorem dX6_foundBy_20 : decode cX6_foundBy 20 = .ok (.aload_n 0, 1) := by decide +kernel
theorem dX6_foundBy_21 : decode cX6_foundBy 21 = .ok (.getfield 48, 3) := by decide +kernel
theorem dX6_foundBy_24 : decode cX6_foundBy 24 = .ok (.iload_n 1, 1) := by decide +kernel
theorem dX6_foundBy_25 : decode cX6_foundBy 25 = .ok (.iaload, 1) := by decide +kernel
theorem dX6_foundBy_26 : decode cX6_foundBy 26 = .ok (.goto 5, 3) := by decide +kernel
theorem dX6_foundBy_29 : decode cX6_foundBy 29 = .ok (.bipush (-9), 2) := by decide +kernel
theorem dX6_foundBy_31 : decode cX6_foundBy 31 = .ok (.ireturn, 1) := by decide +kernel
set_option maxRecDepth 20000 in
theorem ggX6_areBoth_X6_isCross : GoodIn wsX6_areBoth wsX6_isCross := goodIn_r _ [4, 5, 6, 3, 7, 8, 9, 10, 11, 12, 13] (by decide +kernel) (by decide +kernel)
set_option maxRecDepth 20000 in
theorem gX6_areBoth_X6_isCross : GoodIn wsX6_areBoth (va_wsS RX6 183 yX6_isCross wsX6_isCross) := goodIn_app (goodIn_of _ (by decide +kernel)) ggX6_areBoth_X6_isCross
theorem dX6_areBoth_0 : decode cX6_areBoth 0 = .ok (.iload_n 0, 1) := by decide +kernel
theorem dX6_areBoth_1 : decode cX6_areBoth 1 = .ok (.iload_n 1, 1) := by decide +kernel
theorem dX6_areBoth_2 : decode cX6_areBoth 2 = .ok (.iload_n 2, 1) := by decide +kernel
theorem dX6_areBoth_3 : decode cX6_areBoth 3 = .ok (.invokestatic 183, 3) := by decide +kernel
theorem dX6_areBoth_6 : decode cX6_areBoth 6 = .ok (.ifCond .eq 18, 3) := by decide +kernel
theorem dX6_areBoth_9 : decode cX6_areBoth 9 = .ok (.iload_n 0, 1) := by decide +kernel
theorem dX6_areBoth_10 : decode cX6_areBoth 10 = .ok (.iload_n 1, 1) := by decide +kernel
theorem dX6_areBoth_11 : decode cX6_areBoth 11 = .ok (.iload_n 2, 1) := by decide +kernel
theorem dX6_areBoth_12 : decode cX6_areBoth 12 = .ok (.iconst 1, 1) := by decide +kernel
theorem dX6_areBoth_13 : decode cX6_areBoth 13 = .ok (.iadd, 1) := by decide +kernel
theorem dX6_areBoth_14 : decode cX6_areBoth 14 = .ok (.invokestatic 183, 3) := by decide +kernel
theorem dX6_areBoth_17 : decode cX6_areBoth 17 = .ok (.ifCond .eq 7, 3) := by decide +kernel
theorem dX6_areBoth_20 : decode cX6_areBoth 20 = .ok (.iconst 1, 1) := by decide +kernel
theorem dX6_areBoth_21 : decode cX6_areBoth 21 = .ok (.goto 4, 3) := by decide +kernel
theorem dX6_areBoth_24 : decode cX6_areBoth 24 = .ok (.iconst 0, 1) := by decide +kernel
theorem dX6_areBoth_25 : decode cX6_areBoth 25 = .ok (.ireturn, 1) := by decide +kernel
set_option maxRecDepth 20000 in
theorem ggX6_climbs_X6_areBoth : GoodIn wsX6_climbs wsX6_areBoth := goodIn_r _ [4, 5, 6, 3, 7, 8, 9, 10, 11, 12, 13, 14, 15, 16] (by decide +kernel) (by decide +kernel)
set_option maxRecDepth 20000 in
theorem gX6_climbs_X6_areBoth : GoodIn wsX6_climbs (va_wsS RX6 192 yX6_areBoth wsX6_areBoth) := goodIn_app (goodIn_of _ (by decide +kernel)) ggX6_climbs_X6_areBoth
set_option maxRecDepth 20000 in
theorem ggX6_climbs_X6_isCross : GoodIn wsX6_climbs wsX6_isCross := goodIn_r _ [7, 8, 9, 3, 10, 11, 12, 13, 14, 15, 16] (by decide +kernel) (by decide +kernel)
set_option maxRecDepth 20000 in
theorem gX6_climbs_X6_isCross : GoodIn wsX6_climbs (va_wsS RX6 183 yX6_isCross wsX6_isCross) := goodIn_app (goodIn_of _ (by decide +kernel)) ggX6_climbs_X6_isCross
set_option maxRecDepth 20000 in
theorem ggX6_climbs_X6_bitOf : GoodIn wsX6_climbs wsX6_bitOf := goodIn_r _ [16] (by decide +kernel) (by decide +kernel)
set_option maxRecDepth 20000 in
theorem gX6_climbs_X6_bitOf : GoodIn wsX6_climbs (va_wsS RX6 180 yX6_bitOf wsX6_bitOf) := goodIn_app (goodIn_of _ (by decide +kernel)) ggX6_climbs_X6_bitOf
set_option maxRecDepth 20000 in
theorem ggX6_climbs_X6_finds : GoodIn wsX6_climbs wsX6_finds := goodIn_r _ [20, 21, 22, 23, 24, 25, 26, 27, 28, 29, 30, 31, 32, 33, 34, 35, 36, 37, 38] (by decide +kernel) (by decide +kernel)
set_option maxRecDepth 20000 in
theorem gX6_climbs_X6_finds : GoodIn wsX6_climbs (wsV RX6 195 RX6 yX6_finds wsX6_finds) := goodIn_app (goodIn_of _ (by decide +kernel)) ggX6_climbs_X6_finds
theorem dX6_climbs_0 : decode cX6_climbs 0 = .ok (.iload_n 2, 1) := by decide +kernel
theorem dX6_climbs_1 : decode cX6_climbs 1 = .ok (.iconst 1, 1) := by decide +kernel
theorem dX6_climbs_2 : decode cX6_climbs 2 = .ok (.isub, 1) := by decide +kernel
theorem dX6_climbs_3 : decode cX6_climbs 3 = .ok (.istore 4, 2) := by decide +kernel
theorem dX6_climbs_5 : decode cX6_climbs 5 = .ok (.iload 4, 2) := by decide +kernel
theorem dX6_climbs_7 : decode cX6_climbs 7 = .ok (.ifCond .le 19, 3) := by decide +kernel
theorem dX6_climbs_10 : decode cX6_climbs 10 = .ok (.iload_n 1, 1) := by decide +kernel
theorem dX6_climbs_11 : decode cX6_climbs 11 = .ok (.iload 4, 2) := by decide +kernel
theorem dX6_climbs_13 : decode cX6_climbs 13 = .ok (.iload_n 3, 1) := by decide +kernel
theorem dX6_climbs_14 : decode cX6_climbs 14 = .ok (.invokestatic 192, 3) := by decide +kernel
theorem dX6_climbs_17 : decode cX6_climbs 17 = .ok (.ifCond .eq 9, 3) := by decide +kernel
theorem dX6_climbs_20 : decode cX6_climbs 20 = .ok (.iinc 4 (-1), 3) := by decide +kernel
theorem dX6_climbs_23 : decode cX6_climbs 23 = .ok (.goto (-18), 3) := by decide +kernel
theorem dX6_climbs_26 : decode cX6_climbs 26 = .ok (.iload 4, 2) := by decide +kernel
theorem dX6_climbs_28 : decode cX6_climbs 28 = .ok (.ifCond .le 51, 3) := by decide +kernel
theorem dX6_climbs_31 : decode cX6_climbs 31 = .ok (.iload_n 1, 1) := by decide +kernel
theorem dX6_climbs_32 : decode cX6_climbs 32 = .ok (.iload 4, 2) := by decide +kernel
theorem dX6_climbs_34 : decode cX6_climbs 34 = .ok (.iload_n 3, 1) := by decide +kernel
theorem dX6_climbs_35 : decode cX6_climbs 35 = .ok (.invokestatic 183, 3) := by decide +kernel
theorem dX6_climbs_38 : decode cX6_climbs 38 = .ok (.ifCond .ne 41, 3) := by decide +kernel
theorem dX6_climbs_41 : decode cX6_climbs 41 = .ok (.iload_n 1, 1) := by decide +kernel
theorem dX6_climbs_42 : decode cX6_climbs 42 = .ok (.iload 4, 2) := by decide +kernel
theorem dX6_climbs_44 : decode cX6_climbs 44 = .ok (.iload_n 3, 1) := by decide +kernel
theorem dX6_climbs_45 : decode cX6_climbs 45 = .ok (.iconst 1, 1) := by decide +kernel
theorem dX6_climbs_46 : decode cX6_climbs 46 = .ok (.iadd, 1) := by decide +kernel
theorem dX6_climbs_47 : decode cX6_climbs 47 = .ok (.invokestatic 183, 3) := by decide +kernel
theorem dX6_climbs_50 : decode cX6_climbs 50 = .ok (.ifCond .ne 29, 3) := by decide +kernel
theorem dX6_climbs_53 : decode cX6_climbs 53 = .ok (.aload_n 0, 1) := by decide +kernel
theorem dX6_climbs_54 : decode cX6_climbs 54 = .ok (.iload_n 1, 1) := by decide +kernel
theorem dX6_climbs_55 : decode cX6_climbs 55 = .ok (.iconst 1, 1) := by decide +kernel
theorem dX6_climbs_56 : decode cX6_climbs 56 = .ok (.iload_n 2, 1) := by decide +kernel
theorem dX6_climbs_57 : decode cX6_climbs 57 = .ok (.iload_n 3, 1) := by decide +kernel
theorem dX6_climbs_58 : decode cX6_climbs 58 = .ok (.invokestatic 180, 3) := by decide +kernel
theorem dX6_climbs_61 : decode cX6_climbs 61 = .ok (.ishl, 1) := by decide +kernel
theorem dX6_climbs_62 : decode cX6_climbs 62 = .ok (.iconst (-1), 1) := by decide +kernel
theorem dX6_climbs_63 : decode cX6_climbs 63 = .ok (.ixor, 1) := by decide +kernel
theorem dX6_climbs_64 : decode cX6_climbs 64 = .ok (.iand, 1) := by decide +kernel
theorem dX6_climbs_65 : decode cX6_climbs 65 = .ok (.iconst 1, 1) := by decide +kernel
theorem dX6_climbs_66 : decode cX6_climbs 66 = .ok (.iload 4, 2) := by decide +kernel
theorem dX6_climbs_68 : decode cX6_climbs 68 = .ok (.iload_n 3, 1) := by decide +kernel
theorem dX6_climbs_69 : decode cX6_climbs 69 = .ok (.iconst 1, 1) := by decide +kernel
theorem dX6_climbs_70 : decode cX6_climbs 70 = .ok (.iadd, 1) := by decide +kernel
theorem dX6_climbs_71 : decode cX6_climbs 71 = .ok (.invokestatic 180, 3) := by decide +kernel
theorem dX6_climbs_74 : decode cX6_climbs 74 = .ok (.ishl, 1) := by decide +kernel
theorem dX6_climbs_75 : decode cX6_climbs 75 = .ok (.ior, 1) := by decide +kernel
theorem dX6_climbs_76 : decode cX6_climbs 76 = .ok (.invokevirtual 195, 3) := by decide +kernel
theorem dX6_climbs_79 : decode cX6_climbs 79 = .ok (.return_, 1) := by decide +kernel
set_option maxRecDepth 20000 in
theorem ggX6_ladder_X6_within : GoodIn wsX6_ladder wsX6_within := goodIn_r _ [5] (by decide +kernel) (by decide +kernel)
set_option maxRecDepth 20000 in
theorem gX6_ladder_X6_within : GoodIn wsX6_ladder (va_wsS RX6 51 yX6_within wsX6_within) := goodIn_app (goodIn_of _ (by decide +kernel)) ggX6_ladder_X6_within
set_option maxRecDepth 20000 in
theorem ggX6_ladder_X6_isCross : GoodIn wsX6_ladder wsX6_isCross := goodIn_r _ [8, 9, 10, 4, 11, 2, 3, 5, 12, 13, 14] (by decide +kernel) (by decide +kernel)
set_option maxRecDepth 20000 in
theorem gX6_ladder_X6_isCross : GoodIn wsX6_ladder (va_wsS RX6 183 yX6_isCross wsX6_isCross) := goodIn_app (goodIn_of _ (by decide +kernel)) ggX6_ladder_X6_isCross
set_option maxRecDepth 20000 in
theorem ggX6_ladder_X6_climbs : GoodIn wsX6_ladder wsX6_climbs := goodIn_r _ [18, 19, 20, 4, 21, 6, 7, 8, 9, 10, 11, 2, 3, 5, 12, 13, 14, 22, 23, 24, 25, 1, 26, 31, 32, 33, 34, 35, 36, 37, 38, 39, 40, 41, 42, 43, 44, 45, 46] (by decide +kernel) (by decide +kernel)
set_option maxRecDepth 20000 in
theorem gX6_ladder_X6_climbs : GoodIn wsX6_ladder (wsV RX6 198 RX6 yX6_climbs wsX6_climbs) := goodIn_app (goodIn_of _ (by decide +kernel)) ggX6_ladder_X6_climbs
set_option maxRecDepth 20000 in
theorem ggX6_ladder_X6_foundBy : GoodIn wsX6_ladder wsX6_foundBy := goodIn_r _ [30, 1, 26, 31, 32, 33, 34, 35, 36, 37, 38, 39, 40, 41, 42, 43, 44, 45, 46] (by decide +kernel) (by decide +kernel)
set_option maxRecDepth 20000 in
theorem gX6_ladder_X6_foundBy : GoodIn wsX6_ladder (wsV RX6 202 RX6 yX6_foundBy wsX6_foundBy) := goodIn_app (goodIn_of _ (by decide +kernel)) ggX6_ladder_X6_foundBy
theorem dX6_ladder_0 : decode cX6_ladder 0 = .ok (.iload_n 1, 1) := by decide +kernel
theorem dX6_ladder_1 : decode cX6_ladder 1 = .ok (.iconst 0, 1) := by decide +kernel
theorem dX6_ladder_2 : decode cX6_ladder 2 = .ok (.sipush 1023, 3) := by decide +kernel
theorem dX6_ladder_5 : decode cX6_ladder 5 = .ok (.invokestatic 51, 3) := by decide +kernel
theorem dX6_ladder_8 : decode cX6_ladder 8 = .ok (.ifCond .eq 8, 3) := by decide +kernel
theorem dX6_ladder_11 : decode cX6_ladder 11 = .ok (.iload_n 2, 1) := by decide +kernel
theorem dX6_ladder_12 : decode cX6_ladder 12 = .ok (.iconst (-1), 1) := by decide +kernel
theorem dX6_ladder_13 : decode cX6_ladder 13 = .ok (.if_icmp .ge 6, 3) := by decide +kernel
theorem dX6_ladder_16 : decode cX6_ladder 16 = .ok (.bipush (-2), 2) := by decide +kernel
theorem dX6_ladder_18 : decode cX6_ladder 18 = .ok (.ireturn, 1) := by decide +kernel
theorem dX6_ladder_19 : decode cX6_ladder 19 = .ok (.aload_n 0, 1) := by decide +kernel
theorem dX6_ladder_20 : decode cX6_ladder 20 = .ok (.iconst 0, 1) := by decide +kernel
theorem dX6_ladder_21 : decode cX6_ladder 21 = .ok (.putfield 189, 3) := by decide +kernel
theorem dX6_ladder_24 : decode cX6_ladder 24 = .ok (.iconst 2, 1) := by decide +kernel
theorem dX6_ladder_25 : decode cX6_ladder 25 = .ok (.istore_n 3, 1) := by decide +kernel
theorem dX6_ladder_26 : decode cX6_ladder 26 = .ok (.iload_n 3, 1) := by decide +kernel
theorem dX6_ladder_27 : decode cX6_ladder 27 = .ok (.iconst 4, 1) := by decide +kernel
theorem dX6_ladder_28 : decode cX6_ladder 28 = .ok (.if_icmp .gt 56, 3) := by decide +kernel
theorem dX6_ladder_31 : decode cX6_ladder 31 = .ok (.iconst 1, 1) := by decide +kernel
theorem dX6_ladder_32 : decode cX6_ladder 32 = .ok (.istore 4, 2) := by decide +kernel
theorem dX6_ladder_34 : decode cX6_ladder 34 = .ok (.iload 4, 2) := by decide +kernel
theorem dX6_ladder_36 : decode cX6_ladder 36 = .ok (.iconst 5, 1) := by decide +kernel
theorem dX6_ladder_37 : decode cX6_ladder 37 = .ok (.iload_n 3, 1) := by decide +kernel
theorem dX6_ladder_38 : decode cX6_ladder 38 = .ok (.isub, 1) := by decide +kernel
theorem dX6_ladder_39 : decode cX6_ladder 39 = .ok (.if_icmp .gt 39, 3) := by decide +kernel
theorem dX6_ladder_42 : decode cX6_ladder 42 = .ok (.iload_n 1, 1) := by decide +kernel
theorem dX6_ladder_43 : decode cX6_ladder 43 = .ok (.iload_n 3, 1) := by decide +kernel
theorem dX6_ladder_44 : decode cX6_ladder 44 = .ok (.iload 4, 2) := by decide +kernel
theorem dX6_ladder_46 : decode cX6_ladder 46 = .ok (.invokestatic 183, 3) := by decide +kernel
theorem dX6_ladder_49 : decode cX6_ladder 49 = .ok (.ifCond .eq 23, 3) := by decide +kernel
theorem dX6_ladder_52 : decode cX6_ladder 52 = .ok (.iload_n 1, 1) := by decide +kernel
theorem dX6_ladder_53 : decode cX6_ladder 53 = .ok (.iload_n 3, 1) := by decide +kernel
theorem dX6_ladder_54 : decode cX6_ladder 54 = .ok (.iload 4, 2) := by decide +kernel
theorem dX6_ladder_56 : decode cX6_ladder 56 = .ok (.iconst 1, 1) := by decide +kernel
theorem dX6_ladder_57 : decode cX6_ladder 57 = .ok (.iadd, 1) := by decide +kernel
theorem dX6_ladder_58 : decode cX6_ladder 58 = .ok (.invokestatic 183, 3) := by decide +kernel
theorem dX6_ladder_61 : decode cX6_ladder 61 = .ok (.ifCond .ne 11, 3) := by decide +kernel
theorem dX6_ladder_64 : decode cX6_ladder 64 = .ok (.aload_n 0, 1) := by decide +kernel
theorem dX6_ladder_65 : decode cX6_ladder 65 = .ok (.iload_n 1, 1) := by decide +kernel
theorem dX6_ladder_66 : decode cX6_ladder 66 = .ok (.iload_n 3, 1) := by decide +kernel
theorem dX6_ladder_67 : decode cX6_ladder 67 = .ok (.iload 4, 2) := by decide +kernel
theorem dX6_ladder_69 : decode cX6_ladder 69 = .ok (.invokevirtual 198, 3) := by decide +kernel
theorem dX6_ladder_72 : decode cX6_ladder 72 = .ok (.iinc 4 1, 3) := by decide +kernel
theorem dX6_ladder_75 : decode cX6_ladder 75 = .ok (.goto (-41), 3) := by decide +kernel
theorem dX6_ladder_78 : decode cX6_ladder 78 = .ok (.iinc 3 1, 3) := by decide +kernel
theorem dX6_ladder_81 : decode cX6_ladder 81 = .ok (.goto (-55), 3) := by decide +kernel
theorem dX6_ladder_84 : decode cX6_ladder 84 = .ok (.aload_n 0, 1) := by decide +kernel
theorem dX6_ladder_85 : decode cX6_ladder 85 = .ok (.iload_n 2, 1) := by decide +kernel
theorem dX6_ladder_86 : decode cX6_ladder 86 = .ok (.invokevirtual 202, 3) := by decide +kernel
theorem dX6_ladder_89 : decode cX6_ladder 89 = .ok (.ireturn, 1) := by decide +kernel
set_option maxRecDepth 20000 in
theorem ggX6_rise_X6_lays : GoodIn wsX6_rise wsX6_lays := goodIn_r _ [7, 8, 9, 6, 10] (by decide +kernel) (by decide +kernel)
set_option maxRecDepth 20000 in
theorem gX6_rise_X6_lays : GoodIn wsX6_rise (va_wsS RX6 63 yX6_lays wsX6_lays) := goodIn_app (goodIn_of _ (by decide +kernel)) ggX6_rise_X6_lays
set_option maxRecDepth 20000 in
theorem ggX6_rise_X6_within : GoodIn wsX6_rise wsX6_within := goodIn_r _ [10] (by decide +kernel) (by decide +kernel)
set_option maxRecDepth 20000 in
theorem gX6_rise_X6_within : GoodIn wsX6_rise (va_wsS RX6 51 yX6_within wsX6_within) := goodIn_app (goodIn_of _ (by decide +kernel)) ggX6_rise_X6_within
set_option maxRecDepth 20000 in
theorem ggX6_rise_X6_lengthOf : GoodIn wsX6_rise wsX6_lengthOf := goodIn_r _ [13, 14, 15, 6, 16] (by decide +kernel) (by decide +kernel)
set_option maxRecDepth 20000 in
theorem gX6_rise_X6_lengthOf : GoodIn wsX6_rise (va_wsS RX6 70 yX6_lengthOf wsX6_lengthOf) := goodIn_app (goodIn_of _ (by decide +kernel)) ggX6_rise_X6_lengthOf
set_option maxRecDepth 20000 in
theorem ggX6_rise_X6_exchange : GoodIn wsX6_rise wsX6_exchange := goodIn_r _ [19] (by decide +kernel) (by decide +kernel)
set_option maxRecDepth 20000 in
theorem gX6_rise_X6_exchange : GoodIn wsX6_rise (va_wsS RX6 85 yX6_exchange wsX6_exchange) := goodIn_app (goodIn_of _ (by decide +kernel)) ggX6_rise_X6_exchange
set_option maxRecDepth 20000 in
theorem ggX6_rise_X6_plainOf : GoodIn wsX6_rise wsX6_plainOf := goodIn_r _ [22] (by decide +kernel) (by decide +kernel)
set_option maxRecDepth 20000 in
theorem gX6_rise_X6_plainOf : GoodIn wsX6_rise (va_wsS RX6 67 yX6_plainOf wsX6_plainOf) := goodIn_app (goodIn_of _ (by decide +kernel)) ggX6_rise_X6_plainOf
set_option maxRecDepth 20000 in
theorem ggX6_rise_X6_finds : GoodIn wsX6_rise wsX6_finds := goodIn_r _ [26, 3, 27, 32, 33, 34, 35, 36, 37, 38, 39, 40, 41, 42, 43, 44, 45, 46, 47] (by decide +kernel) (by decide +kernel)
set_option maxRecDepth 20000 in
theorem gX6_rise_X6_finds : GoodIn wsX6_rise (wsV RX6 195 RX6 yX6_finds wsX6_finds) := goodIn_app (goodIn_of _ (by decide +kernel)) ggX6_rise_X6_finds
set_option maxRecDepth 20000 in
theorem ggX6_rise_X6_foundBy : GoodIn wsX6_rise wsX6_foundBy := goodIn_r _ [31, 3, 27, 32, 33, 34, 35, 36, 37, 38, 39, 40, 41, 42, 43, 44, 45, 46, 47] (by decide +kernel) (by decide +kernel)
set_option maxRecDepth 20000 in
theorem gX6_rise_X6_foundBy : GoodIn wsX6_rise (wsV RX6 202 RX6 yX6_foundBy wsX6_foundBy) := goodIn_app (goodIn_of _ (by decide +kernel)) ggX6_rise_X6_foundBy
theorem dX6_rise_0 : decode cX6_rise 0 = .ok (.iload_n 1, 1) := by decide +kernel
theorem dX6_rise_1 : decode cX6_rise 1 = .ok (.aload_n 0, 1) := by decide +kernel
theorem dX6_rise_2 : decode cX6_rise 2 = .ok (.getfield 7, 3) := by decide +kernel
theorem dX6_rise_5 : decode cX6_rise 5 = .ok (.invokestatic 63, 3) := by decide +kernel
theorem dX6_rise_8 : decode cX6_rise 8 = .ok (.ifCond .eq 24, 3) := by decide +kernel
theorem dX6_rise_11 : decode cX6_rise 11 = .ok (.iload_n 1, 1) := by decide +kernel
theorem dX6_rise_12 : decode cX6_rise 12 = .ok (.ldc 205, 2) := by decide +kernel
theorem dX6_rise_14 : decode cX6_rise 14 = .ok (.if_icmp .gt 18, 3) := by decide +kernel
theorem dX6_rise_17 : decode cX6_rise 17 = .ok (.iload_n 2, 1) := by decide +kernel
theorem dX6_rise_18 : decode cX6_rise 18 = .ok (.iconst 1, 1) := by decide +kernel
theorem dX6_rise_19 : decode cX6_rise 19 = .ok (.bipush 8, 2) := by decide +kernel
theorem dX6_rise_21 : decode cX6_rise 21 = .ok (.invokestatic 51, 3) := by decide +kernel
theorem dX6_rise_24 : decode cX6_rise 24 = .ok (.ifCond .eq 8, 3) := by decide +kernel
theorem dX6_rise_27 : decode cX6_rise 27 = .ok (.iload_n 3, 1) := by decide +kernel
theorem dX6_rise_28 : decode cX6_rise 28 = .ok (.iconst (-1), 1) := by decide +kernel
theorem dX6_rise_29 : decode cX6_rise 29 = .ok (.if_icmp .ge 6, 3) := by decide +kernel
theorem dX6_rise_32 : decode cX6_rise 32 = .ok (.bipush (-2), 2) := by decide +kernel
theorem dX6_rise_34 : decode cX6_rise 34 = .ok (.ireturn, 1) := by decide +kernel
theorem dX6_rise_35 : decode cX6_rise 35 = .ok (.aload_n 0, 1) := by decide +kernel
theorem dX6_rise_36 : decode cX6_rise 36 = .ok (.getfield 7, 3) := by decide +kernel
theorem dX6_rise_39 : decode cX6_rise 39 = .ok (.invokestatic 70, 3) := by decide +kernel
theorem dX6_rise_42 : decode cX6_rise 42 = .ok (.istore 4, 2) := by decide +kernel
theorem dX6_rise_44 : decode cX6_rise 44 = .ok (.aload_n 0, 1) := by decide +kernel
theorem dX6_rise_45 : decode cX6_rise 45 = .ok (.iconst 0, 1) := by decide +kernel
theorem dX6_rise_46 : decode cX6_rise 46 = .ok (.putfield 189, 3) := by decide +kernel
theorem dX6_rise_49 : decode cX6_rise 49 = .ok (.iconst 1, 1) := by decide +kernel
theorem dX6_rise_50 : decode cX6_rise 50 = .ok (.istore 5, 2) := by decide +kernel
theorem dX6_rise_52 : decode cX6_rise 52 = .ok (.iload 5, 2) := by decide +kernel
theorem dX6_rise_54 : decode cX6_rise 54 = .ok (.iload_n 2, 1) := by decide +kernel
theorem dX6_rise_55 : decode cX6_rise 55 = .ok (.if_icmp .gt 74, 3) := by decide +kernel
theorem dX6_rise_58 : decode cX6_rise 58 = .ok (.iload_n 2, 1) := by decide +kernel
theorem dX6_rise_59 : decode cX6_rise 59 = .ok (.iconst 1, 1) := by decide +kernel
theorem dX6_rise_60 : decode cX6_rise 60 = .ok (.iadd, 1) := by decide +kernel
theorem dX6_rise_61 : decode cX6_rise 61 = .ok (.istore 6, 2) := by decide +kernel
theorem dX6_rise_63 : decode cX6_rise 63 = .ok (.iload 6, 2) := by decide +kernel
theorem dX6_rise_65 : decode cX6_rise 65 = .ok (.bipush 9, 2) := by decide +kernel
theorem dX6_rise_67 : decode cX6_rise 67 = .ok (.if_icmp .gt 56, 3) := by decide +kernel
theorem dX6_rise_70 : decode cX6_rise 70 = .ok (.aload_n 0, 1) := by decide +kernel
theorem dX6_rise_71 : decode cX6_rise 71 = .ok (.getfield 7, 3) := by decide +kernel
theorem dX6_rise_74 : decode cX6_rise 74 = .ok (.iload 5, 2) := by decide +kernel
theorem dX6_rise_76 : decode cX6_rise 76 = .ok (.iload 6, 2) := by decide +kernel
theorem dX6_rise_78 : decode cX6_rise 78 = .ok (.invokestatic 85, 3) := by decide +kernel
theorem dX6_rise_81 : decode cX6_rise 81 = .ok (.aload_n 0, 1) := by decide +kernel
theorem dX6_rise_82 : decode cX6_rise 82 = .ok (.getfield 7, 3) := by decide +kernel
theorem dX6_rise_85 : decode cX6_rise 85 = .ok (.invokestatic 70, 3) := by decide +kernel
theorem dX6_rise_88 : decode cX6_rise 88 = .ok (.iload 4, 2) := by decide +kernel
theorem dX6_rise_90 : decode cX6_rise 90 = .ok (.iconst 1, 1) := by decide +kernel
theorem dX6_rise_91 : decode cX6_rise 91 = .ok (.iadd, 1) := by decide +kernel
theorem dX6_rise_92 : decode cX6_rise 92 = .ok (.if_icmp .ne 14, 3) := by decide +kernel
theorem dX6_rise_95 : decode cX6_rise 95 = .ok (.aload_n 0, 1) := by decide +kernel
theorem dX6_rise_96 : decode cX6_rise 96 = .ok (.aload_n 0, 1) := by decide +kernel
theorem dX6_rise_97 : decode cX6_rise 97 = .ok (.getfield 7, 3) := by decide +kernel
theorem dX6_rise_100 : decode cX6_rise 100 = .ok (.invokestatic 67, 3) := by decide +kernel
theorem dX6_rise_103 : decode cX6_rise 103 = .ok (.invokevirtual 195, 3) := by decide +kernel
theorem dX6_rise_106 : decode cX6_rise 106 = .ok (.aload_n 0, 1) := by decide +kernel
theorem dX6_rise_107 : decode cX6_rise 107 = .ok (.getfield 7, 3) := by decide +kernel
theorem dX6_rise_110 : decode cX6_rise 110 = .ok (.iload 5, 2) := by decide +kernel
theorem dX6_rise_112 : decode cX6_rise 112 = .ok (.iload 6, 2) := by decide +kernel
theorem dX6_rise_114 : decode cX6_rise 114 = .ok (.invokestatic 85, 3) := by decide +kernel
theorem dX6_rise_117 : decode cX6_rise 117 = .ok (.iinc 6 1, 3) := by decide +kernel
theorem dX6_rise_120 : decode cX6_rise 120 = .ok (.goto (-57), 3) := by decide +kernel
theorem dX6_rise_123 : decode cX6_rise 123 = .ok (.iinc 5 1, 3) := by decide +kernel
theorem dX6_rise_126 : decode cX6_rise 126 = .ok (.goto (-74), 3) := by decide +kernel
theorem dX6_rise_129 : decode cX6_rise 129 = .ok (.aload_n 0, 1) := by decide +kernel
theorem dX6_rise_130 : decode cX6_rise 130 = .ok (.iload_n 3, 1) := by decide +kernel
theorem dX6_rise_131 : decode cX6_rise 131 = .ok (.invokevirtual 202, 3) := by decide +kernel
theorem dX6_rise_134 : decode cX6_rise 134 = .ok (.ireturn, 1) := by decide +kernel
theorem dX6_lastDescent_0 : decode cX6_lastDescent 0 = .ok (.bipush 8, 2) := by decide +kernel
theorem dX6_lastDescent_2 : decode cX6_lastDescent 2 = .ok (.istore_n 1, 1) := by decide +kernel
theorem dX6_lastDescent_3 : decode cX6_lastDescent 3 = .ok (.aload_n 0, 1) := by decide +kernel
theorem dX6_lastDescent_4 : decode cX6_lastDescent 4 = .ok (.iload_n 1, 1) := by decide +kernel
theorem dX6_lastDescent_5 : decode cX6_lastDescent 5 = .ok (.iaload, 1) := by decide +kernel
theorem dX6_lastDescent_6 : decode cX6_lastDescent 6 = .ok (.aload_n 0, 1) := by decide +kernel
theorem dX6_lastDescent_7 : decode cX6_lastDescent 7 = .ok (.iload_n 1, 1) := by decide +kernel
theorem dX6_lastDescent_8 : decode cX6_lastDescent 8 = .ok (.iconst 1, 1) := by decide +kernel
theorem dX6_lastDescent_9 : decode cX6_lastDescent 9 = .ok (.iadd, 1) := by decide +kernel
theorem dX6_lastDescent_10 : decode cX6_lastDescent 10 = .ok (.iaload, 1) := by decide +kernel
theorem dX6_lastDescent_11 : decode cX6_lastDescent 11 = .ok (.if_icmp .ge 9, 3) := by decide +kernel
theorem dX6_lastDescent_14 : decode cX6_lastDescent 14 = .ok (.iinc 1 (-1), 3) := by decide +kernel
theorem dX6_lastDescent_17 : decode cX6_lastDescent 17 = .ok (.goto (-14), 3) := by decide +kernel
theorem dX6_lastDescent_20 : decode cX6_lastDescent 20 = .ok (.iload_n 1, 1) := by decide +kernel
theorem dX6_lastDescent_21 : decode cX6_lastDescent 21 = .ok (.ireturn, 1) := by decide +kernel
set_option maxRecDepth 20000 in
theorem ggX6_step_X6_lays : GoodIn wsX6_step wsX6_lays := goodIn_r _ [6, 7, 8, 5, 9] (by decide +kernel) (by decide +kernel)
set_option maxRecDepth 20000 in
theorem gX6_step_X6_lays : GoodIn wsX6_step (va_wsS RX6 63 yX6_lays wsX6_lays) := goodIn_app (goodIn_of _ (by decide +kernel)) ggX6_step_X6_lays
set_option maxRecDepth 20000 in
theorem ggX6_step_X6_descentsOf : GoodIn wsX6_step wsX6_descentsOf := goodIn_r _ [12] (by decide +kernel) (by decide +kernel)
set_option maxRecDepth 20000 in
theorem gX6_step_X6_descentsOf : GoodIn wsX6_step (va_wsS RX6 59 yX6_descentsOf wsX6_descentsOf) := goodIn_app (goodIn_of _ (by decide +kernel)) ggX6_step_X6_descentsOf
set_option maxRecDepth 20000 in
theorem ggX6_step_X6_lengthOf : GoodIn wsX6_step wsX6_lengthOf := goodIn_r _ [15, 16, 17, 5, 18] (by decide +kernel) (by decide +kernel)
set_option maxRecDepth 20000 in
theorem gX6_step_X6_lengthOf : GoodIn wsX6_step (va_wsS RX6 70 yX6_lengthOf wsX6_lengthOf) := goodIn_app (goodIn_of _ (by decide +kernel)) ggX6_step_X6_lengthOf
set_option maxRecDepth 20000 in
theorem ggX6_step_X6_lastDescent : GoodIn wsX6_step wsX6_lastDescent := goodIn_r _ [21] (by decide +kernel) (by decide +kernel)
set_option maxRecDepth 20000 in
theorem gX6_step_X6_lastDescent : GoodIn wsX6_step (va_wsS RX6 206 yX6_lastDescent wsX6_lastDescent) := goodIn_app (goodIn_of _ (by decide +kernel)) ggX6_step_X6_lastDescent
set_option maxRecDepth 20000 in
theorem ggX6_step_X6_exchange : GoodIn wsX6_step wsX6_exchange := goodIn_r _ [24] (by decide +kernel) (by decide +kernel)
set_option maxRecDepth 20000 in
theorem gX6_step_X6_exchange : GoodIn wsX6_step (va_wsS RX6 85 yX6_exchange wsX6_exchange) := goodIn_app (goodIn_of _ (by decide +kernel)) ggX6_step_X6_exchange
set_option maxRecDepth 20000 in
theorem ggX6_step_X6_plainOf : GoodIn wsX6_step wsX6_plainOf := goodIn_r _ [27] (by decide +kernel) (by decide +kernel)
set_option maxRecDepth 20000 in
theorem gX6_step_X6_plainOf : GoodIn wsX6_step (va_wsS RX6 67 yX6_plainOf wsX6_plainOf) := goodIn_app (goodIn_of _ (by decide +kernel)) ggX6_step_X6_plainOf
set_option maxRecDepth 20000 in
theorem ggX6_step_X6_finds : GoodIn wsX6_step wsX6_finds := goodIn_r _ [31, 2, 32, 37, 38, 39, 40, 41, 42, 43, 44, 45, 46, 47, 48, 49, 50, 51, 52] (by decide +kernel) (by decide +kernel)
set_option maxRecDepth 20000 in
theorem gX6_step_X6_finds : GoodIn wsX6_step (wsV RX6 195 RX6 yX6_finds wsX6_finds) := goodIn_app (goodIn_of _ (by decide +kernel)) ggX6_step_X6_finds
set_option maxRecDepth 20000 in
theorem ggX6_step_X6_foundBy : GoodIn wsX6_step wsX6_foundBy := goodIn_r _ [36, 2, 32, 37, 38, 39, 40, 41, 42, 43, 44, 45, 46, 47, 48, 49, 50, 51, 52] (by decide +kernel) (by decide +kernel)
set_option maxRecDepth 20000 in
theorem gX6_step_X6_foundBy : GoodIn wsX6_step (wsV RX6 202 RX6 yX6_foundBy wsX6_foundBy) := goodIn_app (goodIn_of _ (by decide +kernel)) ggX6_step_X6_foundBy
theorem dX6_step_0 : decode cX6_step 0 = .ok (.iload_n 1, 1) := by decide +kernel
theorem dX6_step_1 : decode cX6_step 1 = .ok (.aload_n 0, 1) := by decide +kernel
theorem dX6_step_2 : decode cX6_step 2 = .ok (.getfield 7, 3) := by decide +kernel
theorem dX6_step_5 : decode cX6_step 5 = .ok (.invokestatic 63, 3) := by decide +kernel
theorem dX6_step_8 : decode cX6_step 8 = .ok (.ifCond .eq 9, 3) := by decide +kernel
theorem dX6_step_11 : decode cX6_step 11 = .ok (.iload_n 2, 1) := by decide +kernel
theorem dX6_step_12 : decode cX6_step 12 = .ok (.bipush (-3), 2) := by decide +kernel
theorem dX6_step_14 : decode cX6_step 14 = .ok (.if_icmp .ge 6, 3) := by decide +kernel
theorem dX6_step_17 : decode cX6_step 17 = .ok (.bipush (-2), 2) := by decide +kernel
theorem dX6_step_19 : decode cX6_step 19 = .ok (.ireturn, 1) := by decide +kernel
theorem dX6_step_20 : decode cX6_step 20 = .ok (.aload_n 0, 1) := by decide +kernel
theorem dX6_step_21 : decode cX6_step 21 = .ok (.getfield 7, 3) := by decide +kernel
theorem dX6_step_24 : decode cX6_step 24 = .ok (.invokestatic 59, 3) := by decide +kernel
theorem dX6_step_27 : decode cX6_step 27 = .ok (.ifCond .ne 6, 3) := by decide +kernel
theorem dX6_step_30 : decode cX6_step 30 = .ok (.bipush (-3), 2) := by decide +kernel
theorem dX6_step_32 : decode cX6_step 32 = .ok (.ireturn, 1) := by decide +kernel
theorem dX6_step_33 : decode cX6_step 33 = .ok (.aload_n 0, 1) := by decide +kernel
theorem dX6_step_34 : decode cX6_step 34 = .ok (.getfield 7, 3) := by decide +kernel
theorem dX6_step_37 : decode cX6_step 37 = .ok (.invokestatic 70, 3) := by decide +kernel
theorem dX6_step_40 : decode cX6_step 40 = .ok (.istore_n 3, 1) := by decide +kernel
theorem dX6_step_41 : decode cX6_step 41 = .ok (.aload_n 0, 1) := by decide +kernel
theorem dX6_step_42 : decode cX6_step 42 = .ok (.getfield 7, 3) := by decide +kernel
theorem dX6_step_45 : decode cX6_step 45 = .ok (.invokestatic 206, 3) := by decide +kernel
theorem dX6_step_48 : decode cX6_step 48 = .ok (.istore 4, 2) := by decide +kernel
theorem dX6_step_50 : decode cX6_step 50 = .ok (.bipush 9, 2) := by decide +kernel
theorem dX6_step_52 : decode cX6_step 52 = .ok (.istore 5, 2) := by decide +kernel
theorem dX6_step_54 : decode cX6_step 54 = .ok (.aload_n 0, 1) := by decide +kernel
theorem dX6_step_55 : decode cX6_step 55 = .ok (.getfield 7, 3) := by decide +kernel
theorem dX6_step_58 : decode cX6_step 58 = .ok (.iload 5, 2) := by decide +kernel
theorem dX6_step_60 : decode cX6_step 60 = .ok (.iaload, 1) := by decide +kernel
theorem dX6_step_61 : decode cX6_step 61 = .ok (.aload_n 0, 1) := by decide +kernel
theorem dX6_step_62 : decode cX6_step 62 = .ok (.getfield 7, 3) := by decide +kernel
theorem dX6_step_65 : decode cX6_step 65 = .ok (.iload 4, 2) := by decide +kernel
theorem dX6_step_67 : decode cX6_step 67 = .ok (.iaload, 1) := by decide +kernel
theorem dX6_step_68 : decode cX6_step 68 = .ok (.if_icmp .lt 9, 3) := by decide +kernel
theorem dX6_step_71 : decode cX6_step 71 = .ok (.iinc 5 (-1), 3) := by decide +kernel
theorem dX6_step_74 : decode cX6_step 74 = .ok (.goto (-20), 3) := by decide +kernel
theorem dX6_step_77 : decode cX6_step 77 = .ok (.aload_n 0, 1) := by decide +kernel
theorem dX6_step_78 : decode cX6_step 78 = .ok (.getfield 7, 3) := by decide +kernel
theorem dX6_step_81 : decode cX6_step 81 = .ok (.iload 4, 2) := by decide +kernel
theorem dX6_step_83 : decode cX6_step 83 = .ok (.iload 5, 2) := by decide +kernel
theorem dX6_step_85 : decode cX6_step 85 = .ok (.invokestatic 85, 3) := by decide +kernel
theorem dX6_step_88 : decode cX6_step 88 = .ok (.aload_n 0, 1) := by decide +kernel
theorem dX6_step_89 : decode cX6_step 89 = .ok (.getfield 7, 3) := by decide +kernel
theorem dX6_step_92 : decode cX6_step 92 = .ok (.invokestatic 67, 3) := by decide +kernel
theorem dX6_step_95 : decode cX6_step 95 = .ok (.istore 6, 2) := by decide +kernel
theorem dX6_step_97 : decode cX6_step 97 = .ok (.aload_n 0, 1) := by decide +kernel
theorem dX6_step_98 : decode cX6_step 98 = .ok (.iconst 0, 1) := by decide +kernel
theorem dX6_step_99 : decode cX6_step 99 = .ok (.putfield 189, 3) := by decide +kernel
theorem dX6_step_102 : decode cX6_step 102 = .ok (.iconst 1, 1) := by decide +kernel
theorem dX6_step_103 : decode cX6_step 103 = .ok (.istore 7, 2) := by decide +kernel
theorem dX6_step_105 : decode cX6_step 105 = .ok (.iload 7, 2) := by decide +kernel
theorem dX6_step_107 : decode cX6_step 107 = .ok (.iload 4, 2) := by decide +kernel
theorem dX6_step_109 : decode cX6_step 109 = .ok (.if_icmp .ge 53, 3) := by decide +kernel
theorem dX6_step_112 : decode cX6_step 112 = .ok (.aload_n 0, 1) := by decide +kernel
theorem dX6_step_113 : decode cX6_step 113 = .ok (.getfield 7, 3) := by decide +kernel
theorem dX6_step_116 : decode cX6_step 116 = .ok (.iload 7, 2) := by decide +kernel
theorem dX6_step_118 : decode cX6_step 118 = .ok (.iload 4, 2) := by decide +kernel
theorem dX6_step_120 : decode cX6_step 120 = .ok (.invokestatic 85, 3) := by decide +kernel
theorem dX6_step_123 : decode cX6_step 123 = .ok (.aload_n 0, 1) := by decide +kernel
theorem dX6_step_124 : decode cX6_step 124 = .ok (.getfield 7, 3) := by decide +kernel
theorem dX6_step_127 : decode cX6_step 127 = .ok (.invokestatic 70, 3) := by decide +kernel
theorem dX6_step_130 : decode cX6_step 130 = .ok (.iload_n 3, 1) := by decide +kernel
theorem dX6_step_131 : decode cX6_step 131 = .ok (.if_icmp .ne 14, 3) := by decide +kernel
theorem dX6_step_134 : decode cX6_step 134 = .ok (.aload_n 0, 1) := by decide +kernel
theorem dX6_step_135 : decode cX6_step 135 = .ok (.aload_n 0, 1) := by decide +kernel
theorem dX6_step_136 : decode cX6_step 136 = .ok (.getfield 7, 3) := by decide +kernel
theorem dX6_step_139 : decode cX6_step 139 = .ok (.invokestatic 67, 3) := by decide +kernel
theorem dX6_step_142 : decode cX6_step 142 = .ok (.invokevirtual 195, 3) := by decide +kernel
theorem dX6_step_145 : decode cX6_step 145 = .ok (.aload_n 0, 1) := by decide +kernel
theorem dX6_step_146 : decode cX6_step 146 = .ok (.getfield 7, 3) := by decide +kernel
theorem dX6_step_149 : decode cX6_step 149 = .ok (.iload 7, 2) := by decide +kernel
theorem dX6_step_151 : decode cX6_step 151 = .ok (.iload 4, 2) := by decide +kernel
theorem dX6_step_153 : decode cX6_step 153 = .ok (.invokestatic 85, 3) := by decide +kernel
theorem dX6_step_156 : decode cX6_step 156 = .ok (.iinc 7 1, 3) := by decide +kernel
theorem dX6_step_159 : decode cX6_step 159 = .ok (.goto (-54), 3) := by decide +kernel
theorem dX6_step_162 : decode cX6_step 162 = .ok (.iload_n 2, 1) := by decide +kernel
theorem dX6_step_163 : decode cX6_step 163 = .ok (.tableswitch 43 (-3) 0 #[29, 32, 35, 40], 29) := by decide +kernel
theorem dX6_step_192 : decode cX6_step 192 = .ok (.iload 4, 2) := by decide +kernel
theorem dX6_step_194 : decode cX6_step 194 = .ok (.ireturn, 1) := by decide +kernel
theorem dX6_step_195 : decode cX6_step 195 = .ok (.iload 5, 2) := by decide +kernel
theorem dX6_step_197 : decode cX6_step 197 = .ok (.ireturn, 1) := by decide +kernel
theorem dX6_step_198 : decode cX6_step 198 = .ok (.aload_n 0, 1) := by decide +kernel
theorem dX6_step_199 : decode cX6_step 199 = .ok (.getfield 189, 3) := by decide +kernel
theorem dX6_step_202 : decode cX6_step 202 = .ok (.ireturn, 1) := by decide +kernel
theorem dX6_step_203 : decode cX6_step 203 = .ok (.iload 6, 2) := by decide +kernel
theorem dX6_step_205 : decode cX6_step 205 = .ok (.ireturn, 1) := by decide +kernel
theorem dX6_step_206 : decode cX6_step 206 = .ok (.aload_n 0, 1) := by decide +kernel
theorem dX6_step_207 : decode cX6_step 207 = .ok (.iload_n 2, 1) := by decide +kernel
theorem dX6_step_208 : decode cX6_step 208 = .ok (.iconst 1, 1) := by decide +kernel
theorem dX6_step_209 : decode cX6_step 209 = .ok (.isub, 1) := by decide +kernel
theorem dX6_step_210 : decode cX6_step 210 = .ok (.invokevirtual 202, 3) := by decide +kernel
theorem dX6_step_213 : decode cX6_step 213 = .ok (.ireturn, 1) := by decide +kernel
set_option maxRecDepth 20000 in
theorem ggX6_shape_X6_lays : GoodIn wsX6_shape wsX6_lays := goodIn_r _ [5, 6, 7, 4, 8] (by decide +kernel) (by decide +kernel)
set_option maxRecDepth 20000 in
theorem gX6_shape_X6_lays : GoodIn wsX6_shape (va_wsS RX6 63 yX6_lays wsX6_lays) := goodIn_app (goodIn_of _ (by decide +kernel)) ggX6_shape_X6_lays
set_option maxRecDepth 20000 in
theorem ggX6_shape_X6_descentsOf : GoodIn wsX6_shape wsX6_descentsOf := goodIn_r _ [11] (by decide +kernel) (by decide +kernel)
set_option maxRecDepth 20000 in
theorem gX6_shape_X6_descentsOf : GoodIn wsX6_shape (va_wsS RX6 59 yX6_descentsOf wsX6_descentsOf) := goodIn_app (goodIn_of _ (by decide +kernel)) ggX6_shape_X6_descentsOf
set_option maxRecDepth 20000 in
theorem ggX6_shape_X6_lastDescent : GoodIn wsX6_shape wsX6_lastDescent := goodIn_r _ [14] (by decide +kernel) (by decide +kernel)
set_option maxRecDepth 20000 in
theorem gX6_shape_X6_lastDescent : GoodIn wsX6_shape (va_wsS RX6 206 yX6_lastDescent wsX6_lastDescent) := goodIn_app (goodIn_of _ (by decide +kernel)) ggX6_shape_X6_lastDescent
theorem dX6_shape_0 : decode cX6_shape 0 = .ok (.iload_n 1, 1) := by decide +kernel
theorem dX6_shape_1 : decode cX6_shape 1 = .ok (.aload_n 0, 1) := by decide +kernel
theorem dX6_shape_2 : decode cX6_shape 2 = .ok (.getfield 7, 3) := by decide +kernel
theorem dX6_shape_5 : decode cX6_shape 5 = .ok (.invokestatic 63, 3) := by decide +kernel
theorem dX6_shape_8 : decode cX6_shape 8 = .ok (.ifCond .eq 8, 3) := by decide +kernel
theorem dX6_shape_11 : decode cX6_shape 11 = .ok (.iload_n 2, 1) := by decide +kernel
theorem dX6_shape_12 : decode cX6_shape 12 = .ok (.iconst 1, 1) := by decide +kernel
theorem dX6_shape_13 : decode cX6_shape 13 = .ok (.if_icmp .ge 6, 3) := by decide +kernel
theorem dX6_shape_16 : decode cX6_shape 16 = .ok (.bipush (-2), 2) := by decide +kernel
theorem dX6_shape_18 : decode cX6_shape 18 = .ok (.ireturn, 1) := by decide +kernel
theorem dX6_shape_19 : decode cX6_shape 19 = .ok (.aload_n 0, 1) := by decide +kernel
theorem dX6_shape_20 : decode cX6_shape 20 = .ok (.getfield 7, 3) := by decide +kernel
theorem dX6_shape_23 : decode cX6_shape 23 = .ok (.invokestatic 59, 3) := by decide +kernel
theorem dX6_shape_26 : decode cX6_shape 26 = .ok (.istore_n 3, 1) := by decide +kernel
theorem dX6_shape_27 : decode cX6_shape 27 = .ok (.iload_n 3, 1) := by decide +kernel
theorem dX6_shape_28 : decode cX6_shape 28 = .ok (.ifCond .eq 11, 3) := by decide +kernel
theorem dX6_shape_31 : decode cX6_shape 31 = .ok (.iload_n 3, 1) := by decide +kernel
theorem dX6_shape_32 : decode cX6_shape 32 = .ok (.iload_n 3, 1) := by decide +kernel
theorem dX6_shape_33 : decode cX6_shape 33 = .ok (.iconst 1, 1) := by decide +kernel
theorem dX6_shape_34 : decode cX6_shape 34 = .ok (.isub, 1) := by decide +kernel
theorem dX6_shape_35 : decode cX6_shape 35 = .ok (.iand, 1) := by decide +kernel
theorem dX6_shape_36 : decode cX6_shape 36 = .ok (.ifCond .eq 6, 3) := by decide +kernel
theorem dX6_shape_39 : decode cX6_shape 39 = .ok (.bipush (-3), 2) := by decide +kernel
theorem dX6_shape_41 : decode cX6_shape 41 = .ok (.ireturn, 1) := by decide +kernel
theorem dX6_shape_42 : decode cX6_shape 42 = .ok (.aload_n 0, 1) := by decide +kernel
theorem dX6_shape_43 : decode cX6_shape 43 = .ok (.getfield 7, 3) := by decide +kernel
theorem dX6_shape_46 : decode cX6_shape 46 = .ok (.invokestatic 206, 3) := by decide +kernel
theorem dX6_shape_49 : decode cX6_shape 49 = .ok (.istore 4, 2) := by decide +kernel
theorem dX6_shape_51 : decode cX6_shape 51 = .ok (.iload_n 2, 1) := by decide +kernel
theorem dX6_shape_52 : decode cX6_shape 52 = .ok (.iload 4, 2) := by decide +kernel
theorem dX6_shape_54 : decode cX6_shape 54 = .ok (.if_icmp .gt 24, 3) := by decide +kernel
theorem dX6_shape_57 : decode cX6_shape 57 = .ok (.aload_n 0, 1) := by decide +kernel
theorem dX6_shape_58 : decode cX6_shape 58 = .ok (.getfield 7, 3) := by decide +kernel
theorem dX6_shape_61 : decode cX6_shape 61 = .ok (.iload 4, 2) := by decide +kernel
theorem dX6_shape_63 : decode cX6_shape 63 = .ok (.iconst 1, 1) := by decide +kernel
theorem dX6_shape_64 : decode cX6_shape 64 = .ok (.iadd, 1) := by decide +kernel
theorem dX6_shape_65 : decode cX6_shape 65 = .ok (.iload_n 2, 1) := by decide +kernel
theorem dX6_shape_66 : decode cX6_shape 66 = .ok (.isub, 1) := by decide +kernel
theorem dX6_shape_67 : decode cX6_shape 67 = .ok (.iaload, 1) := by decide +kernel
theorem dX6_shape_68 : decode cX6_shape 68 = .ok (.iload 4, 2) := by decide +kernel
theorem dX6_shape_70 : decode cX6_shape 70 = .ok (.iconst 1, 1) := by decide +kernel
theorem dX6_shape_71 : decode cX6_shape 71 = .ok (.iadd, 1) := by decide +kernel
theorem dX6_shape_72 : decode cX6_shape 72 = .ok (.iload_n 2, 1) := by decide +kernel
theorem dX6_shape_73 : decode cX6_shape 73 = .ok (.isub, 1) := by decide +kernel
theorem dX6_shape_74 : decode cX6_shape 74 = .ok (.isub, 1) := by decide +kernel
theorem dX6_shape_75 : decode cX6_shape 75 = .ok (.goto 5, 3) := by decide +kernel
theorem dX6_shape_78 : decode cX6_shape 78 = .ok (.bipush (-9), 2) := by decide +kernel
theorem dX6_shape_80 : decode cX6_shape 80 = .ok (.ireturn, 1) := by decide +kernel
theorem dX6_hasThree_0 : decode cX6_hasThree 0 = .ok (.iconst 0, 1) := by decide +kernel
theorem dX6_hasThree_1 : decode cX6_hasThree 1 = .ok (.istore_n 1, 1) := by decide +kernel
theorem dX6_hasThree_2 : decode cX6_hasThree 2 = .ok (.iconst 0, 1) := by decide +kernel
theorem dX6_hasThree_3 : decode cX6_hasThree 3 = .ok (.istore_n 2, 1) := by decide +kernel
theorem dX6_hasThree_4 : decode cX6_hasThree 4 = .ok (.iload_n 2, 1) := by decide +kernel
theorem dX6_hasThree_5 : decode cX6_hasThree 5 = .ok (.sipush 729, 3) := by decide +kernel
theorem dX6_hasThree_8 : decode cX6_hasThree 8 = .ok (.if_icmp .ge 79, 3) := by decide +kernel
theorem dX6_hasThree_11 : decode cX6_hasThree 11 = .ok (.iload_n 2, 1) := by decide +kernel
theorem dX6_hasThree_12 : decode cX6_hasThree 12 = .ok (.bipush 81, 2) := by decide +kernel
theorem dX6_hasThree_14 : decode cX6_hasThree 14 = .ok (.idiv, 1) := by decide +kernel
theorem dX6_hasThree_15 : decode cX6_hasThree 15 = .ok (.iconst 1, 1) := by decide +kernel
theorem dX6_hasThree_16 : decode cX6_hasThree 16 = .ok (.iadd, 1) := by decide +kernel
theorem dX6_hasThree_17 : decode cX6_hasThree 17 = .ok (.istore_n 3, 1) := by decide +kernel
theorem dX6_hasThree_18 : decode cX6_hasThree 18 = .ok (.iload_n 2, 1) := by decide +kernel
theorem dX6_hasThree_19 : decode cX6_hasThree 19 = .ok (.bipush 9, 2) := by decide +kernel
theorem dX6_hasThree_21 : decode cX6_hasThree 21 = .ok (.idiv, 1) := by decide +kernel
theorem dX6_hasThree_22 : decode cX6_hasThree 22 = .ok (.bipush 9, 2) := by decide +kernel
theorem dX6_hasThree_24 : decode cX6_hasThree 24 = .ok (.irem, 1) := by decide +kernel
theorem dX6_hasThree_25 : decode cX6_hasThree 25 = .ok (.iconst 1, 1) := by decide +kernel
theorem dX6_hasThree_26 : decode cX6_hasThree 26 = .ok (.iadd, 1) := by decide +kernel
theorem dX6_hasThree_27 : decode cX6_hasThree 27 = .ok (.istore 4, 2) := by decide +kernel
theorem dX6_hasThree_29 : decode cX6_hasThree 29 = .ok (.iload_n 2, 1) := by decide +kernel
theorem dX6_hasThree_30 : decode cX6_hasThree 30 = .ok (.bipush 9, 2) := by decide +kernel
theorem dX6_hasThree_32 : decode cX6_hasThree 32 = .ok (.irem, 1) := by decide +kernel
theorem dX6_hasThree_33 : decode cX6_hasThree 33 = .ok (.iconst 1, 1) := by decide +kernel
theorem dX6_hasThree_34 : decode cX6_hasThree 34 = .ok (.iadd, 1) := by decide +kernel
theorem dX6_hasThree_35 : decode cX6_hasThree 35 = .ok (.istore 5, 2) := by decide +kernel
theorem dX6_hasThree_37 : decode cX6_hasThree 37 = .ok (.iload_n 1, 1) := by decide +kernel
theorem dX6_hasThree_38 : decode cX6_hasThree 38 = .ok (.ifCond .ne 37, 3) := by decide +kernel
theorem dX6_hasThree_41 : decode cX6_hasThree 41 = .ok (.iload_n 3, 1) := by decide +kernel
theorem dX6_hasThree_42 : decode cX6_hasThree 42 = .ok (.iload 4, 2) := by decide +kernel
theorem dX6_hasThree_44 : decode cX6_hasThree 44 = .ok (.if_icmp .ge 35, 3) := by decide +kernel
theorem dX6_hasThree_47 : decode cX6_hasThree 47 = .ok (.iload 4, 2) := by decide +kernel
theorem dX6_hasThree_49 : decode cX6_hasThree 49 = .ok (.iload 5, 2) := by decide +kernel
theorem dX6_hasThree_51 : decode cX6_hasThree 51 = .ok (.if_icmp .ge 28, 3) := by decide +kernel
theorem dX6_hasThree_54 : decode cX6_hasThree 54 = .ok (.aload_n 0, 1) := by decide +kernel
theorem dX6_hasThree_55 : decode cX6_hasThree 55 = .ok (.iload_n 3, 1) := by decide +kernel
theorem dX6_hasThree_56 : decode cX6_hasThree 56 = .ok (.iaload, 1) := by decide +kernel
theorem dX6_hasThree_57 : decode cX6_hasThree 57 = .ok (.aload_n 0, 1) := by decide +kernel
theorem dX6_hasThree_58 : decode cX6_hasThree 58 = .ok (.iload 5, 2) := by decide +kernel
theorem dX6_hasThree_60 : decode cX6_hasThree 60 = .ok (.iaload, 1) := by decide +kernel
theorem dX6_hasThree_61 : decode cX6_hasThree 61 = .ok (.if_icmp .ge 18, 3) := by decide +kernel
theorem dX6_hasThree_64 : decode cX6_hasThree 64 = .ok (.aload_n 0, 1) := by decide +kernel
theorem dX6_hasThree_65 : decode cX6_hasThree 65 = .ok (.iload 5, 2) := by decide +kernel
theorem dX6_hasThree_67 : decode cX6_hasThree 67 = .ok (.iaload, 1) := by decide +kernel
theorem dX6_hasThree_68 : decode cX6_hasThree 68 = .ok (.aload_n 0, 1) := by decide +kernel
theorem dX6_hasThree_69 : decode cX6_hasThree 69 = .ok (.iload 4, 2) := by decide +kernel
theorem dX6_hasThree_71 : decode cX6_hasThree 71 = .ok (.iaload, 1) := by decide +kernel
theorem dX6_hasThree_72 : decode cX6_hasThree 72 = .ok (.if_icmp .ge 7, 3) := by decide +kernel
theorem dX6_hasThree_75 : decode cX6_hasThree 75 = .ok (.iconst 1, 1) := by decide +kernel
theorem dX6_hasThree_76 : decode cX6_hasThree 76 = .ok (.goto 4, 3) := by decide +kernel
theorem dX6_hasThree_79 : decode cX6_hasThree 79 = .ok (.iconst 0, 1) := by decide +kernel
theorem dX6_hasThree_80 : decode cX6_hasThree 80 = .ok (.istore_n 1, 1) := by decide +kernel
theorem dX6_hasThree_81 : decode cX6_hasThree 81 = .ok (.iinc 2 1, 3) := by decide +kernel
theorem dX6_hasThree_84 : decode cX6_hasThree 84 = .ok (.goto (-80), 3) := by decide +kernel
theorem dX6_hasThree_87 : decode cX6_hasThree 87 = .ok (.iload_n 1, 1) := by decide +kernel
theorem dX6_hasThree_88 : decode cX6_hasThree 88 = .ok (.ireturn, 1) := by decide +kernel
theorem dX6_hasFour_0 : decode cX6_hasFour 0 = .ok (.iconst 0, 1) := by decide +kernel
theorem dX6_hasFour_1 : decode cX6_hasFour 1 = .ok (.istore_n 1, 1) := by decide +kernel
theorem dX6_hasFour_2 : decode cX6_hasFour 2 = .ok (.iconst 0, 1) := by decide +kernel
theorem dX6_hasFour_3 : decode cX6_hasFour 3 = .ok (.istore_n 2, 1) := by decide +kernel
theorem dX6_hasFour_4 : decode cX6_hasFour 4 = .ok (.iload_n 2, 1) := by decide +kernel
theorem dX6_hasFour_5 : decode cX6_hasFour 5 = .ok (.sipush 6561, 3) := by decide +kernel
theorem dX6_hasFour_8 : decode cX6_hasFour 8 = .ok (.if_icmp .ge 108, 3) := by decide +kernel
theorem dX6_hasFour_11 : decode cX6_hasFour 11 = .ok (.iload_n 2, 1) := by decide +kernel
theorem dX6_hasFour_12 : decode cX6_hasFour 12 = .ok (.sipush 729, 3) := by decide +kernel
theorem dX6_hasFour_15 : decode cX6_hasFour 15 = .ok (.idiv, 1) := by decide +kernel
theorem dX6_hasFour_16 : decode cX6_hasFour 16 = .ok (.iconst 1, 1) := by decide +kernel
theorem dX6_hasFour_17 : decode cX6_hasFour 17 = .ok (.iadd, 1) := by decide +kernel
theorem dX6_hasFour_18 : decode cX6_hasFour 18 = .ok (.istore_n 3, 1) := by decide +kernel
theorem dX6_hasFour_19 : decode cX6_hasFour 19 = .ok (.iload_n 2, 1) := by decide +kernel
theorem dX6_hasFour_20 : decode cX6_hasFour 20 = .ok (.bipush 81, 2) := by decide +kernel
theorem dX6_hasFour_22 : decode cX6_hasFour 22 = .ok (.idiv, 1) := by decide +kernel
theorem dX6_hasFour_23 : decode cX6_hasFour 23 = .ok (.bipush 9, 2) := by decide +kernel
theorem dX6_hasFour_25 : decode cX6_hasFour 25 = .ok (.irem, 1) := by decide +kernel
theorem dX6_hasFour_26 : decode cX6_hasFour 26 = .ok (.iconst 1, 1) := by decide +kernel
theorem dX6_hasFour_27 : decode cX6_hasFour 27 = .ok (.iadd, 1) := by decide +kernel
theorem dX6_hasFour_28 : decode cX6_hasFour 28 = .ok (.istore 4, 2) := by decide +kernel
theorem dX6_hasFour_30 : decode cX6_hasFour 30 = .ok (.iload_n 2, 1) := by decide +kernel
theorem dX6_hasFour_31 : decode cX6_hasFour 31 = .ok (.bipush 9, 2) := by decide +kernel
theorem dX6_hasFour_33 : decode cX6_hasFour 33 = .ok (.idiv, 1) := by decide +kernel
theorem dX6_hasFour_34 : decode cX6_hasFour 34 = .ok (.bipush 9, 2) := by decide +kernel
theorem dX6_hasFour_36 : decode cX6_hasFour 36 = .ok (.irem, 1) := by decide +kernel
theorem dX6_hasFour_37 : decode cX6_hasFour 37 = .ok (.iconst 1, 1) := by decide +kernel
theorem dX6_hasFour_38 : decode cX6_hasFour 38 = .ok (.iadd, 1) := by decide +kernel
theorem dX6_hasFour_39 : decode cX6_hasFour 39 = .ok (.istore 5, 2) := by decide +kernel
theorem dX6_hasFour_41 : decode cX6_hasFour 41 = .ok (.iload_n 2, 1) := by decide +kernel
theorem dX6_hasFour_42 : decode cX6_hasFour 42 = .ok (.bipush 9, 2) := by decide +kernel
theorem dX6_hasFour_44 : decode cX6_hasFour 44 = .ok (.irem, 1) := by decide +kernel
theorem dX6_hasFour_45 : decode cX6_hasFour 45 = .ok (.iconst 1, 1) := by decide +kernel
theorem dX6_hasFour_46 : decode cX6_hasFour 46 = .ok (.iadd, 1) := by decide +kernel
theorem dX6_hasFour_47 : decode cX6_hasFour 47 = .ok (.istore 6, 2) := by decide +kernel
theorem dX6_hasFour_49 : decode cX6_hasFour 49 = .ok (.iload_n 1, 1) := by decide +kernel
theorem dX6_hasFour_50 : decode cX6_hasFour 50 = .ok (.ifCond .ne 54, 3) := by decide +kernel
theorem dX6_hasFour_53 : decode cX6_hasFour 53 = .ok (.iload_n 3, 1) := by decide +kernel
theorem dX6_hasFour_54 : decode cX6_hasFour 54 = .ok (.iload 4, 2) := by decide +kernel
theorem dX6_hasFour_56 : decode cX6_hasFour 56 = .ok (.if_icmp .ge 52, 3) := by decide +kernel
theorem dX6_hasFour_59 : decode cX6_hasFour 59 = .ok (.iload 4, 2) := by decide +kernel
theorem dX6_hasFour_61 : decode cX6_hasFour 61 = .ok (.iload 5, 2) := by decide +kernel
theorem dX6_hasFour_63 : decode cX6_hasFour 63 = .ok (.if_icmp .ge 45, 3) := by decide +kernel
theorem dX6_hasFour_66 : decode cX6_hasFour 66 = .ok (.iload 5, 2) := by decide +kernel
theorem dX6_hasFour_68 : decode cX6_hasFour 68 = .ok (.iload 6, 2) := by decide +kernel
theorem dX6_hasFour_70 : decode cX6_hasFour 70 = .ok (.if_icmp .ge 38, 3) := by decide +kernel
theorem dX6_hasFour_73 : decode cX6_hasFour 73 = .ok (.aload_n 0, 1) := by decide +kernel
theorem dX6_hasFour_74 : decode cX6_hasFour 74 = .ok (.iload 4, 2) := by decide +kernel
theorem dX6_hasFour_76 : decode cX6_hasFour 76 = .ok (.iaload, 1) := by decide +kernel
theorem dX6_hasFour_77 : decode cX6_hasFour 77 = .ok (.aload_n 0, 1) := by decide +kernel
theorem dX6_hasFour_78 : decode cX6_hasFour 78 = .ok (.iload_n 3, 1) := by decide +kernel
theorem dX6_hasFour_79 : decode cX6_hasFour 79 = .ok (.iaload, 1) := by decide +kernel
theorem dX6_hasFour_80 : decode cX6_hasFour 80 = .ok (.if_icmp .ge 28, 3) := by decide +kernel
theorem dX6_hasFour_83 : decode cX6_hasFour 83 = .ok (.aload_n 0, 1) := by decide +kernel
theorem dX6_hasFour_84 : decode cX6_hasFour 84 = .ok (.iload_n 3, 1) := by decide +kernel
theorem dX6_hasFour_85 : decode cX6_hasFour 85 = .ok (.iaload, 1) := by decide +kernel
theorem dX6_hasFour_86 : decode cX6_hasFour 86 = .ok (.aload_n 0, 1) := by decide +kernel
theorem dX6_hasFour_87 : decode cX6_hasFour 87 = .ok (.iload 6, 2) := by decide +kernel
theorem dX6_hasFour_89 : decode cX6_hasFour 89 = .ok (.iaload, 1) := by decide +kernel
theorem dX6_hasFour_90 : decode cX6_hasFour 90 = .ok (.if_icmp .ge 18, 3) := by decide +kernel
theorem dX6_hasFour_93 : decode cX6_hasFour 93 = .ok (.aload_n 0, 1) := by decide +kernel
theorem dX6_hasFour_94 : decode cX6_hasFour 94 = .ok (.iload 6, 2) := by decide +kernel
theorem dX6_hasFour_96 : decode cX6_hasFour 96 = .ok (.iaload, 1) := by decide +kernel
theorem dX6_hasFour_97 : decode cX6_hasFour 97 = .ok (.aload_n 0, 1) := by decide +kernel
theorem dX6_hasFour_98 : decode cX6_hasFour 98 = .ok (.iload 5, 2) := by decide +kernel
theorem dX6_hasFour_100 : decode cX6_hasFour 100 = .ok (.iaload, 1) := by decide +kernel
theorem dX6_hasFour_101 : decode cX6_hasFour 101 = .ok (.if_icmp .ge 7, 3) := by decide +kernel
theorem dX6_hasFour_104 : decode cX6_hasFour 104 = .ok (.iconst 1, 1) := by decide +kernel
theorem dX6_hasFour_105 : decode cX6_hasFour 105 = .ok (.goto 4, 3) := by decide +kernel
theorem dX6_hasFour_108 : decode cX6_hasFour 108 = .ok (.iconst 0, 1) := by decide +kernel
theorem dX6_hasFour_109 : decode cX6_hasFour 109 = .ok (.istore_n 1, 1) := by decide +kernel
theorem dX6_hasFour_110 : decode cX6_hasFour 110 = .ok (.iinc 2 1, 3) := by decide +kernel
theorem dX6_hasFour_113 : decode cX6_hasFour 113 = .ok (.goto (-109), 3) := by decide +kernel
theorem dX6_hasFour_116 : decode cX6_hasFour 116 = .ok (.iload_n 1, 1) := by decide +kernel
theorem dX6_hasFour_117 : decode cX6_hasFour 117 = .ok (.ireturn, 1) := by decide +kernel
set_option maxRecDepth 20000 in
theorem ggX6_avoids_X6_lays : GoodIn wsX6_avoids wsX6_lays := goodIn_r _ [5, 6, 7, 4, 8] (by decide +kernel) (by decide +kernel)
set_option maxRecDepth 20000 in
theorem gX6_avoids_X6_lays : GoodIn wsX6_avoids (va_wsS RX6 63 yX6_lays wsX6_lays) := goodIn_app (goodIn_of _ (by decide +kernel)) ggX6_avoids_X6_lays
set_option maxRecDepth 20000 in
theorem ggX6_avoids_X6_within : GoodIn wsX6_avoids wsX6_within := goodIn_r _ [8] (by decide +kernel) (by decide +kernel)
set_option maxRecDepth 20000 in
theorem gX6_avoids_X6_within : GoodIn wsX6_avoids (va_wsS RX6 51 yX6_within wsX6_within) := goodIn_app (goodIn_of _ (by decide +kernel)) ggX6_avoids_X6_within
set_option maxRecDepth 20000 in
theorem ggX6_avoids_X6_hasThree : GoodIn wsX6_avoids wsX6_hasThree := goodIn_r _ [11] (by decide +kernel) (by decide +kernel)
set_option maxRecDepth 20000 in
theorem gX6_avoids_X6_hasThree : GoodIn wsX6_avoids (va_wsS RX6 209 yX6_hasThree wsX6_hasThree) := goodIn_app (goodIn_of _ (by decide +kernel)) ggX6_avoids_X6_hasThree
set_option maxRecDepth 20000 in
theorem ggX6_avoids_X6_hasFour : GoodIn wsX6_avoids wsX6_hasFour := goodIn_r _ [14] (by decide +kernel) (by decide +kernel)
set_option maxRecDepth 20000 in
theorem gX6_avoids_X6_hasFour : GoodIn wsX6_avoids (va_wsS RX6 212 yX6_hasFour wsX6_hasFour) := goodIn_app (goodIn_of _ (by decide +kernel)) ggX6_avoids_X6_hasFour
theorem dX6_avoids_0 : decode cX6_avoids 0 = .ok (.iload_n 1, 1) := by decide +kernel
theorem dX6_avoids_1 : decode cX6_avoids 1 = .ok (.aload_n 0, 1) := by decide +kernel
theorem dX6_avoids_2 : decode cX6_avoids 2 = .ok (.getfield 7, 3) := by decide +kernel
theorem dX6_avoids_5 : decode cX6_avoids 5 = .ok (.invokestatic 63, 3) := by decide +kernel
theorem dX6_avoids_8 : decode cX6_avoids 8 = .ok (.ifCond .eq 12, 3) := by decide +kernel
theorem dX6_avoids_11 : decode cX6_avoids 11 = .ok (.iload_n 2, 1) := by decide +kernel
theorem dX6_avoids_12 : decode cX6_avoids 12 = .ok (.iconst 1, 1) := by decide +kernel
theorem dX6_avoids_13 : decode cX6_avoids 13 = .ok (.iconst 2, 1) := by decide +kernel
theorem dX6_avoids_14 : decode cX6_avoids 14 = .ok (.invokestatic 51, 3) := by decide +kernel
theorem dX6_avoids_17 : decode cX6_avoids 17 = .ok (.ifCond .ne 6, 3) := by decide +kernel
theorem dX6_avoids_20 : decode cX6_avoids 20 = .ok (.bipush (-2), 2) := by decide +kernel
theorem dX6_avoids_22 : decode cX6_avoids 22 = .ok (.ireturn, 1) := by decide +kernel
theorem dX6_avoids_23 : decode cX6_avoids 23 = .ok (.iload_n 2, 1) := by decide +kernel
theorem dX6_avoids_24 : decode cX6_avoids 24 = .ok (.iconst 1, 1) := by decide +kernel
theorem dX6_avoids_25 : decode cX6_avoids 25 = .ok (.if_icmp .ne 13, 3) := by decide +kernel
theorem dX6_avoids_28 : decode cX6_avoids 28 = .ok (.aload_n 0, 1) := by decide +kernel
theorem dX6_avoids_29 : decode cX6_avoids 29 = .ok (.getfield 7, 3) := by decide +kernel
theorem dX6_avoids_32 : decode cX6_avoids 32 = .ok (.invokestatic 209, 3) := by decide +kernel
theorem dX6_avoids_35 : decode cX6_avoids 35 = .ok (.goto 10, 3) := by decide +kernel
theorem dX6_avoids_38 : decode cX6_avoids 38 = .ok (.aload_n 0, 1) := by decide +kernel
theorem dX6_avoids_39 : decode cX6_avoids 39 = .ok (.getfield 7, 3) := by decide +kernel
theorem dX6_avoids_42 : decode cX6_avoids 42 = .ok (.invokestatic 212, 3) := by decide +kernel
theorem dX6_avoids_45 : decode cX6_avoids 45 = .ok (.istore_n 3, 1) := by decide +kernel
theorem dX6_avoids_46 : decode cX6_avoids 46 = .ok (.iload_n 3, 1) := by decide +kernel
theorem dX6_avoids_47 : decode cX6_avoids 47 = .ok (.ifCond .eq 7, 3) := by decide +kernel
theorem dX6_avoids_50 : decode cX6_avoids 50 = .ok (.iconst 0, 1) := by decide +kernel
theorem dX6_avoids_51 : decode cX6_avoids 51 = .ok (.goto 4, 3) := by decide +kernel
theorem dX6_avoids_54 : decode cX6_avoids 54 = .ok (.iconst 1, 1) := by decide +kernel
theorem dX6_avoids_55 : decode cX6_avoids 55 = .ok (.ireturn, 1) := by decide +kernel
end
section
theorem dJ6_bitCount_0f7a4_0 : decode cJ6_bitCount_0f7a4 0 = .ok (.iload_n 0, 1) := by decide +kernel
theorem dJ6_bitCount_0f7a4_1 : decode cJ6_bitCount_0f7a4 1 = .ok (.iload_n 0, 1) := by decide +kernel
theorem dJ6_bitCount_0f7a4_2 : decode cJ6_bitCount_0f7a4 2 = .ok (.iconst 1, 1) := by decide +kernel
theorem dJ6_bitCount_0f7a4_3 : decode cJ6_bitCount_0f7a4 3 = .ok (.iushr, 1) := by decide +kernel
theorem dJ6_bitCount_0f7a4_4 : decode cJ6_bitCount_0f7a4 4 = .ok (.ldc_w 265, 3) := by decide +kernel
theorem dJ6_bitCount_0f7a4_7 : decode cJ6_bitCount_0f7a4 7 = .ok (.iand, 1) := by decide +kernel
theorem dJ6_bitCount_0f7a4_8 : decode cJ6_bitCount_0f7a4 8 = .ok (.isub, 1) := by decide +kernel
theorem dJ6_bitCount_0f7a4_9 : decode cJ6_bitCount_0f7a4 9 = .ok (.istore_n 0, 1) := by decide +kernel
theorem dJ6_bitCount_0f7a4_10 : decode cJ6_bitCount_0f7a4 10 = .ok (.iload_n 0, 1) := by decide +kernel
theorem dJ6_bitCount_0f7a4_11 : decode cJ6_bitCount_0f7a4 11 = .ok (.ldc_w 266, 3) := by decide +kernel
theorem dJ6_bitCount_0f7a4_14 : decode cJ6_bitCount_0f7a4 14 = .ok (.iand, 1) := by decide +kernel
theorem dJ6_bitCount_0f7a4_15 : decode cJ6_bitCount_0f7a4 15 = .ok (.iload_n 0, 1) := by decide +kernel
theorem dJ6_bitCount_0f7a4_16 : decode cJ6_bitCount_0f7a4 16 = .ok (.iconst 2, 1) := by decide +kernel
theorem dJ6_bitCount_0f7a4_17 : decode cJ6_bitCount_0f7a4 17 = .ok (.iushr, 1) := by decide +kernel
theorem dJ6_bitCount_0f7a4_18 : decode cJ6_bitCount_0f7a4 18 = .ok (.ldc_w 266, 3) := by decide +kernel
theorem dJ6_bitCount_0f7a4_21 : decode cJ6_bitCount_0f7a4 21 = .ok (.iand, 1) := by decide +kernel
theorem dJ6_bitCount_0f7a4_22 : decode cJ6_bitCount_0f7a4 22 = .ok (.iadd, 1) := by decide +kernel
theorem dJ6_bitCount_0f7a4_23 : decode cJ6_bitCount_0f7a4 23 = .ok (.istore_n 0, 1) := by decide +kernel
theorem dJ6_bitCount_0f7a4_24 : decode cJ6_bitCount_0f7a4 24 = .ok (.iload_n 0, 1) := by decide +kernel
theorem dJ6_bitCount_0f7a4_25 : decode cJ6_bitCount_0f7a4 25 = .ok (.iload_n 0, 1) := by decide +kernel
theorem dJ6_bitCount_0f7a4_26 : decode cJ6_bitCount_0f7a4 26 = .ok (.iconst 4, 1) := by decide +kernel
theorem dJ6_bitCount_0f7a4_27 : decode cJ6_bitCount_0f7a4 27 = .ok (.iushr, 1) := by decide +kernel
theorem dJ6_bitCount_0f7a4_28 : decode cJ6_bitCount_0f7a4 28 = .ok (.iadd, 1) := by decide +kernel
theorem dJ6_bitCount_0f7a4_29 : decode cJ6_bitCount_0f7a4 29 = .ok (.ldc_w 267, 3) := by decide +kernel
theorem dJ6_bitCount_0f7a4_32 : decode cJ6_bitCount_0f7a4 32 = .ok (.iand, 1) := by decide +kernel
theorem dJ6_bitCount_0f7a4_33 : decode cJ6_bitCount_0f7a4 33 = .ok (.istore_n 0, 1) := by decide +kernel
theorem dJ6_bitCount_0f7a4_34 : decode cJ6_bitCount_0f7a4 34 = .ok (.iload_n 0, 1) := by decide +kernel
theorem dJ6_bitCount_0f7a4_35 : decode cJ6_bitCount_0f7a4 35 = .ok (.iload_n 0, 1) := by decide +kernel
theorem dJ6_bitCount_0f7a4_36 : decode cJ6_bitCount_0f7a4 36 = .ok (.bipush 8, 2) := by decide +kernel
theorem dJ6_bitCount_0f7a4_38 : decode cJ6_bitCount_0f7a4 38 = .ok (.iushr, 1) := by decide +kernel
theorem dJ6_bitCount_0f7a4_39 : decode cJ6_bitCount_0f7a4 39 = .ok (.iadd, 1) := by decide +kernel
theorem dJ6_bitCount_0f7a4_40 : decode cJ6_bitCount_0f7a4 40 = .ok (.istore_n 0, 1) := by decide +kernel
theorem dJ6_bitCount_0f7a4_41 : decode cJ6_bitCount_0f7a4 41 = .ok (.iload_n 0, 1) := by decide +kernel
theorem dJ6_bitCount_0f7a4_42 : decode cJ6_bitCount_0f7a4 42 = .ok (.iload_n 0, 1) := by decide +kernel
theorem dJ6_bitCount_0f7a4_43 : decode cJ6_bitCount_0f7a4 43 = .ok (.bipush 16, 2) := by decide +kernel
theorem dJ6_bitCount_0f7a4_45 : decode cJ6_bitCount_0f7a4 45 = .ok (.iushr, 1) := by decide +kernel
theorem dJ6_bitCount_0f7a4_46 : decode cJ6_bitCount_0f7a4 46 = .ok (.iadd, 1) := by decide +kernel
theorem dJ6_bitCount_0f7a4_47 : decode cJ6_bitCount_0f7a4 47 = .ok (.istore_n 0, 1) := by decide +kernel
theorem dJ6_bitCount_0f7a4_48 : decode cJ6_bitCount_0f7a4 48 = .ok (.iload_n 0, 1) := by decide +kernel
theorem dJ6_bitCount_0f7a4_49 : decode cJ6_bitCount_0f7a4 49 = .ok (.bipush 63, 2) := by decide +kernel
theorem dJ6_bitCount_0f7a4_51 : decode cJ6_bitCount_0f7a4 51 = .ok (.iand, 1) := by decide +kernel
theorem dJ6_bitCount_0f7a4_52 : decode cJ6_bitCount_0f7a4 52 = .ok (.ireturn, 1) := by decide +kernel
theorem dJ9_max_7cf53_0 : decode cJ9_max_7cf53 0 = .ok (.iload_n 0, 1) := by decide +kernel
theorem dJ9_max_7cf53_1 : decode cJ9_max_7cf53 1 = .ok (.iload_n 1, 1) := by decide +kernel
theorem dJ9_max_7cf53_2 : decode cJ9_max_7cf53 2 = .ok (.if_icmp .lt 7, 3) := by decide +kernel
theorem dJ9_max_7cf53_5 : decode cJ9_max_7cf53 5 = .ok (.iload_n 0, 1) := by decide +kernel
theorem dJ9_max_7cf53_6 : decode cJ9_max_7cf53 6 = .ok (.goto 4, 3) := by decide +kernel
theorem dJ9_max_7cf53_9 : decode cJ9_max_7cf53 9 = .ok (.iload_n 1, 1) := by decide +kernel
theorem dJ9_max_7cf53_10 : decode cJ9_max_7cf53 10 = .ok (.ireturn, 1) := by decide +kernel
theorem dJ9_min_7cf53_0 : decode cJ9_min_7cf53 0 = .ok (.iload_n 0, 1) := by decide +kernel
theorem dJ9_min_7cf53_1 : decode cJ9_min_7cf53 1 = .ok (.iload_n 1, 1) := by decide +kernel
theorem dJ9_min_7cf53_2 : decode cJ9_min_7cf53 2 = .ok (.if_icmp .gt 7, 3) := by decide +kernel
theorem dJ9_min_7cf53_5 : decode cJ9_min_7cf53 5 = .ok (.iload_n 0, 1) := by decide +kernel
theorem dJ9_min_7cf53_6 : decode cJ9_min_7cf53 6 = .ok (.goto 4, 3) := by decide +kernel
theorem dJ9_min_7cf53_9 : decode cJ9_min_7cf53 9 = .ok (.iload_n 1, 1) := by decide +kernel
theorem dJ9_min_7cf53_10 : decode cJ9_min_7cf53 10 = .ok (.ireturn, 1) := by decide +kernel
theorem dJ7_fill_d0a16_0 : decode cJ7_fill_d0a16 0 = .ok (.iconst 0, 1) := by decide +kernel
theorem dJ7_fill_d0a16_1 : decode cJ7_fill_d0a16 1 = .ok (.istore_n 3, 1) := by decide +kernel
theorem dJ7_fill_d0a16_2 : decode cJ7_fill_d0a16 2 = .ok (.aload_n 0, 1) := by decide +kernel
theorem dJ7_fill_d0a16_3 : decode cJ7_fill_d0a16 3 = .ok (.arraylength, 1) := by decide +kernel
theorem dJ7_fill_d0a16_4 : decode cJ7_fill_d0a16 4 = .ok (.istore 4, 2) := by decide +kernel
theorem dJ7_fill_d0a16_6 : decode cJ7_fill_d0a16 6 = .ok (.iload_n 3, 1) := by decide +kernel
theorem dJ7_fill_d0a16_7 : decode cJ7_fill_d0a16 7 = .ok (.iload 4, 2) := by decide +kernel
theorem dJ7_fill_d0a16_9 : decode cJ7_fill_d0a16 9 = .ok (.if_icmp .ge 13, 3) := by decide +kernel
theorem dJ7_fill_d0a16_12 : decode cJ7_fill_d0a16 12 = .ok (.aload_n 0, 1) := by decide +kernel
theorem dJ7_fill_d0a16_13 : decode cJ7_fill_d0a16 13 = .ok (.iload_n 3, 1) := by decide +kernel
theorem dJ7_fill_d0a16_14 : decode cJ7_fill_d0a16 14 = .ok (.lload_n 1, 1) := by decide +kernel
theorem dJ7_fill_d0a16_15 : decode cJ7_fill_d0a16 15 = .ok (.lastore, 1) := by decide +kernel
theorem dJ7_fill_d0a16_16 : decode cJ7_fill_d0a16 16 = .ok (.iinc 3 1, 3) := by decide +kernel
theorem dJ7_fill_d0a16_19 : decode cJ7_fill_d0a16 19 = .ok (.goto (-13), 3) := by decide +kernel
theorem dJ7_fill_d0a16_22 : decode cJ7_fill_d0a16 22 = .ok (.return_, 1) := by decide +kernel
theorem dJ7_fill_53178_0 : decode cJ7_fill_53178 0 = .ok (.iconst 0, 1) := by decide +kernel
theorem dJ7_fill_53178_1 : decode cJ7_fill_53178 1 = .ok (.istore_n 2, 1) := by decide +kernel
theorem dJ7_fill_53178_2 : decode cJ7_fill_53178 2 = .ok (.aload_n 0, 1) := by decide +kernel
theorem dJ7_fill_53178_3 : decode cJ7_fill_53178 3 = .ok (.arraylength, 1) := by decide +kernel
theorem dJ7_fill_53178_4 : decode cJ7_fill_53178 4 = .ok (.istore_n 3, 1) := by decide +kernel
theorem dJ7_fill_53178_5 : decode cJ7_fill_53178 5 = .ok (.iload_n 2, 1) := by decide +kernel
theorem dJ7_fill_53178_6 : decode cJ7_fill_53178 6 = .ok (.iload_n 3, 1) := by decide +kernel
theorem dJ7_fill_53178_7 : decode cJ7_fill_53178 7 = .ok (.if_icmp .ge 13, 3) := by decide +kernel
theorem dJ7_fill_53178_10 : decode cJ7_fill_53178 10 = .ok (.aload_n 0, 1) := by decide +kernel
theorem dJ7_fill_53178_11 : decode cJ7_fill_53178 11 = .ok (.iload_n 2, 1) := by decide +kernel
theorem dJ7_fill_53178_12 : decode cJ7_fill_53178 12 = .ok (.iload_n 1, 1) := by decide +kernel
theorem dJ7_fill_53178_13 : decode cJ7_fill_53178 13 = .ok (.iastore, 1) := by decide +kernel
theorem dJ7_fill_53178_14 : decode cJ7_fill_53178 14 = .ok (.iinc 2 1, 3) := by decide +kernel
theorem dJ7_fill_53178_17 : decode cJ7_fill_53178 17 = .ok (.goto (-12), 3) := by decide +kernel
theorem dJ7_fill_53178_20 : decode cJ7_fill_53178 20 = .ok (.return_, 1) := by decide +kernel
end
