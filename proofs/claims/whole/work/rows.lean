section
-- ===== PART A: goes FIRST, ahead of the names: the tables' words, and 'selects' of the private methods out of them =====
/-- a private method of a class that the tables say can be made, by its rows of tables_1 -/
def lw_okq (q : MethodName × Nat) : Prop := (q.1.cls ≠ "java/lang/invoke/MethodHandle" ∧ q.1.cls ≠ "java/lang/invoke/VarHandle") ∧ Cond.instantiable q.1.cls q.2 ∈ tables_1 ∧ Cond.privateMethod q.1 ∈ tables_1 ∧ Cond.instanceMethod q.1 ∈ tables_1
theorem lw_p0 : lw_okq (⟨"ShunLots", "isThing", "(I)Z"⟩, 8) := ⟨⟨by decide +kernel, by decide +kernel⟩, List.mem_of_getElem? (i := 11) (by decide +kernel), List.mem_of_getElem? (i := 131) (by decide +kernel), List.mem_of_getElem? (i := 132) (by decide +kernel)⟩
theorem lw_p1 : lw_okq (⟨"ShunLots", "isSet", "(I)Z"⟩, 8) := ⟨⟨by decide +kernel, by decide +kernel⟩, List.mem_of_getElem? (i := 11) (by decide +kernel), List.mem_of_getElem? (i := 151) (by decide +kernel), List.mem_of_getElem? (i := 152) (by decide +kernel)⟩
theorem lw_p2 : lw_okq (⟨"ShunLots$Table", "layRow", "(IIILShunLots$Square;)V"⟩, 2) := ⟨⟨by decide +kernel, by decide +kernel⟩, List.mem_of_getElem? (i := 28) (by decide +kernel), List.mem_of_getElem? (i := 174) (by decide +kernel), List.mem_of_getElem? (i := 175) (by decide +kernel)⟩
theorem lw_p3 : lw_okq (⟨"ShunLots$Square", "alongLastRow", "(I)J"⟩, 3) := ⟨⟨by decide +kernel, by decide +kernel⟩, List.mem_of_getElem? (i := 80) (by decide +kernel), List.mem_of_getElem? (i := 188) (by decide +kernel), List.mem_of_getElem? (i := 189) (by decide +kernel)⟩
theorem lw_p4 : lw_okq (⟨"ShunLots", "draftWorths", "(LShunLots$Table;)I"⟩, 8) := ⟨⟨by decide +kernel, by decide +kernel⟩, List.mem_of_getElem? (i := 11) (by decide +kernel), List.mem_of_getElem? (i := 197) (by decide +kernel), List.mem_of_getElem? (i := 198) (by decide +kernel)⟩
theorem lw_p5 : lw_okq (⟨"ShunLots", "settle", "(I)Z"⟩, 8) := ⟨⟨by decide +kernel, by decide +kernel⟩, List.mem_of_getElem? (i := 11) (by decide +kernel), List.mem_of_getElem? (i := 209) (by decide +kernel), List.mem_of_getElem? (i := 210) (by decide +kernel)⟩
theorem lw_p6 : lw_okq (⟨"ShunLots$Net", "joinedOnce", "(II)I"⟩, 4) := ⟨⟨by decide +kernel, by decide +kernel⟩, List.mem_of_getElem? (i := 61) (by decide +kernel), List.mem_of_getElem? (i := 255) (by decide +kernel), List.mem_of_getElem? (i := 256) (by decide +kernel)⟩
theorem lw_p7 : lw_okq (⟨"ShunLots", "lawAt", "(I)LShunLots$Law;"⟩, 8) := ⟨⟨by decide +kernel, by decide +kernel⟩, List.mem_of_getElem? (i := 11) (by decide +kernel), List.mem_of_getElem? (i := 279) (by decide +kernel), List.mem_of_getElem? (i := 280) (by decide +kernel)⟩
theorem lw_p8 : lw_okq (⟨"ShunLots", "halveDraft", "(I)V"⟩, 8) := ⟨⟨by decide +kernel, by decide +kernel⟩, List.mem_of_getElem? (i := 11) (by decide +kernel), List.mem_of_getElem? (i := 291) (by decide +kernel), List.mem_of_getElem? (i := 292) (by decide +kernel)⟩
theorem lw_p9 : lw_okq (⟨"ShunLots", "isCount", "(I)Z"⟩, 8) := ⟨⟨by decide +kernel, by decide +kernel⟩, List.mem_of_getElem? (i := 11) (by decide +kernel), List.mem_of_getElem? (i := 343) (by decide +kernel), List.mem_of_getElem? (i := 344) (by decide +kernel)⟩
theorem lw_p10 : lw_okq (⟨"ShunLots", "withBestThing", "(LShunLots$Law;I)I"⟩, 8) := ⟨⟨by decide +kernel, by decide +kernel⟩, List.mem_of_getElem? (i := 11) (by decide +kernel), List.mem_of_getElem? (i := 393) (by decide +kernel), List.mem_of_getElem? (i := 394) (by decide +kernel)⟩
theorem lw_p11 : lw_okq (⟨"ShunLotsModel", "isThing", "(I)Z"⟩, 13) := ⟨⟨by decide +kernel, by decide +kernel⟩, List.mem_of_getElem? (i := 410) (by decide +kernel), List.mem_of_getElem? (i := 467) (by decide +kernel), List.mem_of_getElem? (i := 468) (by decide +kernel)⟩
theorem lw_p12 : lw_okq (⟨"ShunLotsModel", "isSet", "(I)Z"⟩, 13) := ⟨⟨by decide +kernel, by decide +kernel⟩, List.mem_of_getElem? (i := 410) (by decide +kernel), List.mem_of_getElem? (i := 479) (by decide +kernel), List.mem_of_getElem? (i := 480) (by decide +kernel)⟩
theorem lw_p13 : lw_okq (⟨"ShunLotsModel", "determinant", "(III)J"⟩, 13) := ⟨⟨by decide +kernel, by decide +kernel⟩, List.mem_of_getElem? (i := 410) (by decide +kernel), List.mem_of_getElem? (i := 483) (by decide +kernel), List.mem_of_getElem? (i := 484) (by decide +kernel)⟩
theorem lw_p14 : lw_okq (⟨"ShunLotsModel", "clear", "()V"⟩, 13) := ⟨⟨by decide +kernel, by decide +kernel⟩, List.mem_of_getElem? (i := 410) (by decide +kernel), List.mem_of_getElem? (i := 503) (by decide +kernel), List.mem_of_getElem? (i := 504) (by decide +kernel)⟩
theorem lw_p15 : lw_okq (⟨"ShunLotsModel", "makes", "(I)Z"⟩, 13) := ⟨⟨by decide +kernel, by decide +kernel⟩, List.mem_of_getElem? (i := 410) (by decide +kernel), List.mem_of_getElem? (i := 507) (by decide +kernel), List.mem_of_getElem? (i := 508) (by decide +kernel)⟩
def lw_privs_1 : List (MethodName × Nat) := [(⟨"ShunLots", "isThing", "(I)Z"⟩, 8), (⟨"ShunLots", "isSet", "(I)Z"⟩, 8), (⟨"ShunLots$Table", "layRow", "(IIILShunLots$Square;)V"⟩, 2), (⟨"ShunLots$Square", "alongLastRow", "(I)J"⟩, 3), (⟨"ShunLots", "draftWorths", "(LShunLots$Table;)I"⟩, 8), (⟨"ShunLots", "settle", "(I)Z"⟩, 8), (⟨"ShunLots$Net", "joinedOnce", "(II)I"⟩, 4), (⟨"ShunLots", "lawAt", "(I)LShunLots$Law;"⟩, 8), (⟨"ShunLots", "halveDraft", "(I)V"⟩, 8), (⟨"ShunLots", "isCount", "(I)Z"⟩, 8), (⟨"ShunLots", "withBestThing", "(LShunLots$Law;I)I"⟩, 8), (⟨"ShunLotsModel", "isThing", "(I)Z"⟩, 13), (⟨"ShunLotsModel", "isSet", "(I)Z"⟩, 13), (⟨"ShunLotsModel", "determinant", "(III)J"⟩, 13), (⟨"ShunLotsModel", "clear", "()V"⟩, 13), (⟨"ShunLotsModel", "makes", "(I)Z"⟩, 13)]
theorem lw_r1 : ∀ q ∈ lw_privs_1, lw_okq q := List.forall_mem_cons.mpr ⟨lw_p0, List.forall_mem_cons.mpr ⟨lw_p1, List.forall_mem_cons.mpr ⟨lw_p2, List.forall_mem_cons.mpr ⟨lw_p3, List.forall_mem_cons.mpr ⟨lw_p4, List.forall_mem_cons.mpr ⟨lw_p5, List.forall_mem_cons.mpr ⟨lw_p6, List.forall_mem_cons.mpr ⟨lw_p7, List.forall_mem_cons.mpr ⟨lw_p8, List.forall_mem_cons.mpr ⟨lw_p9, List.forall_mem_cons.mpr ⟨lw_p10, List.forall_mem_cons.mpr ⟨lw_p11, List.forall_mem_cons.mpr ⟨lw_p12, List.forall_mem_cons.mpr ⟨lw_p13, List.forall_mem_cons.mpr ⟨lw_p14, List.forall_mem_cons.mpr ⟨lw_p15, fun _ h => absurd h List.not_mem_nil⟩⟩⟩⟩⟩⟩⟩⟩⟩⟩⟩⟩⟩⟩⟩⟩
theorem lw_p16 : lw_okq (⟨"ShunLotsModel", "treeOf", "(II)J"⟩, 13) := ⟨⟨by decide +kernel, by decide +kernel⟩, List.mem_of_getElem? (i := 410) (by decide +kernel), List.mem_of_getElem? (i := 523) (by decide +kernel), List.mem_of_getElem? (i := 524) (by decide +kernel)⟩
theorem lw_p17 : lw_okq (⟨"ShunLotsModel", "isLaw", "(I)Z"⟩, 13) := ⟨⟨by decide +kernel, by decide +kernel⟩, List.mem_of_getElem? (i := 410) (by decide +kernel), List.mem_of_getElem? (i := 544) (by decide +kernel), List.mem_of_getElem? (i := 545) (by decide +kernel)⟩
theorem lw_p18 : lw_okq (⟨"ShunLotsModel", "canBe", "(III)Z"⟩, 13) := ⟨⟨by decide +kernel, by decide +kernel⟩, List.mem_of_getElem? (i := 410) (by decide +kernel), List.mem_of_getElem? (i := 552) (by decide +kernel), List.mem_of_getElem? (i := 553) (by decide +kernel)⟩
theorem lw_p19 : lw_okq (⟨"ShunLotsModel", "sum", "(I)J"⟩, 13) := ⟨⟨by decide +kernel, by decide +kernel⟩, List.mem_of_getElem? (i := 410) (by decide +kernel), List.mem_of_getElem? (i := 568) (by decide +kernel), List.mem_of_getElem? (i := 569) (by decide +kernel)⟩
theorem lw_p20 : lw_okq (⟨"ShunLotsModel", "sumOf", "(III)J"⟩, 13) := ⟨⟨by decide +kernel, by decide +kernel⟩, List.mem_of_getElem? (i := 410) (by decide +kernel), List.mem_of_getElem? (i := 591) (by decide +kernel), List.mem_of_getElem? (i := 592) (by decide +kernel)⟩
theorem lw_p21 : lw_okq (⟨"ShunLotsModel", "ofSize", "(II)J"⟩, 13) := ⟨⟨by decide +kernel, by decide +kernel⟩, List.mem_of_getElem? (i := 410) (by decide +kernel), List.mem_of_getElem? (i := 603) (by decide +kernel), List.mem_of_getElem? (i := 604) (by decide +kernel)⟩
theorem lw_p22 : lw_okq (⟨"ShunLotsModel", "shunning", "(III)J"⟩, 13) := ⟨⟨by decide +kernel, by decide +kernel⟩, List.mem_of_getElem? (i := 410) (by decide +kernel), List.mem_of_getElem? (i := 619) (by decide +kernel), List.mem_of_getElem? (i := 620) (by decide +kernel)⟩
def lw_privs_2 : List (MethodName × Nat) := [(⟨"ShunLotsModel", "treeOf", "(II)J"⟩, 13), (⟨"ShunLotsModel", "isLaw", "(I)Z"⟩, 13), (⟨"ShunLotsModel", "canBe", "(III)Z"⟩, 13), (⟨"ShunLotsModel", "sum", "(I)J"⟩, 13), (⟨"ShunLotsModel", "sumOf", "(III)J"⟩, 13), (⟨"ShunLotsModel", "ofSize", "(II)J"⟩, 13), (⟨"ShunLotsModel", "shunning", "(III)J"⟩, 13)]
theorem lw_r2 : ∀ q ∈ lw_privs_2, lw_okq q := List.forall_mem_cons.mpr ⟨lw_p16, List.forall_mem_cons.mpr ⟨lw_p17, List.forall_mem_cons.mpr ⟨lw_p18, List.forall_mem_cons.mpr ⟨lw_p19, List.forall_mem_cons.mpr ⟨lw_p20, List.forall_mem_cons.mpr ⟨lw_p21, List.forall_mem_cons.mpr ⟨lw_p22, fun _ h => absurd h List.not_mem_nil⟩⟩⟩⟩⟩⟩⟩
def lw_privs : List (MethodName × Nat) := lw_privs_1 ++ (lw_privs_2)
def lw_tbl : List Cond := k2_sels lw_privs ++ tables_1
theorem lw_privs_ok : ∀ q ∈ lw_privs, lw_okq q := by
  show ∀ q ∈ lw_privs_1 ++ (lw_privs_2), lw_okq q
  exact List.forall_mem_append.mpr ⟨lw_r1, lw_r2⟩
-- ===== end of PART A; then your names; then what follows =====
/-! ===== BEGIN words of one list among another's, by their places ===== -/
theorem goodIn_r {big : List Cond} (ws : List Cond) (ps : List Nat) (hp : ws = ps.filterMap (fun i => big[i]?)) (h : ws.all goodWord = true) : GoodIn big ws := by
  intro w hw
  have h1 := List.all_eq_true.mp h w hw
  rw [hp] at hw
  obtain ⟨i, -, hi⟩ := List.mem_filterMap.mp hw
  have hm : w ∈ big := by first | exact List.mem_of_getElem? hi | exact List.getElem?_mem hi
  exact ⟨hm, good_of_word h1⟩
theorem goodIn_app {big a b : List Cond} (ha : GoodIn big a) (hb : GoodIn big b) : GoodIn big (a ++ b) := fun w h => (List.mem_append.mp h).elim (ha w) (hb w)
theorem goodIn_ca {big a b : List Cond} {c : Cond} (ha : GoodIn big (c :: a)) (hb : GoodIn big b) : GoodIn big (c :: (a ++ b)) := fun w h => (List.mem_cons.mp h).elim (fun e => ha w (List.mem_cons.mpr (Or.inl e))) (fun h => (List.mem_append.mp h).elim (fun h => ha w (List.mem_cons.mpr (Or.inr h))) (hb w))
theorem goodIn_sub {big ws : List Cond} (hm : ∀ w ∈ ws, w ∈ big) (h : ws.all goodWord = true) : GoodIn big ws := fun w hw => ⟨hm w hw, good_of_word (List.all_eq_true.mp h w hw)⟩
/-! ===== END ===== -/

/-! ===== BEGIN printed: names, fields, word lists, decode rows ===== -/
def RX0 : String := "ShunLots$Law"
def TX0 : u_T := fun k => match k with
  | 0 => ("ShunLots$Law", "shares", "[J", true)
  | 1 => ("ShunLots$Law", "sum", "J", false)
  | _ => ("ShunLots$Law", "made", "Z", false)
def tyX0 : Nat → FieldType := fun k => match k with
  | 0 => .array .long
  | 1 => .long
  | _ => .boolean
abbrev wsX00 : List Cond := u_ws RX0 TX0 3
theorem nmX0 : ∀ a, a < 3 → ∀ b, b < 3 → a ≠ b → (TX0 a).2.1 ≠ (TX0 b).2.1 := by decide +kernel
theorem tyX0_ok : ∀ k, k < 3 → parseFieldDescriptor (TX0 k).2.2.1 = some (tyX0 k) := by decide +kernel
abbrev cX0_init : ByteArray := prog_2_method_1_code
def yX0_init : MethodName := ⟨RX0, "<init>", "(I)V"⟩
abbrev cX0_become : ByteArray := prog_2_method_2_code
def yX0_become : MethodName := ⟨RX0, "become", "([J)V"⟩
abbrev cX0_sumFitting : ByteArray := prog_2_method_3_code
def yX0_sumFitting : MethodName := ⟨RX0, "sumFitting", "(II)J"⟩
abbrev cX0_sumOfSize : ByteArray := prog_2_method_4_code
def yX0_sumOfSize : MethodName := ⟨RX0, "sumOfSize", "(I)J"⟩
abbrev cX0_sumOfCounts : ByteArray := prog_2_method_5_code
def yX0_sumOfCounts : MethodName := ⟨RX0, "sumOfCounts", "()J"⟩
abbrev cX0_sumOfSquares : ByteArray := prog_2_method_6_code
def yX0_sumOfSquares : MethodName := ⟨RX0, "sumOfSquares", "()J"⟩
abbrev cX0_apartness : ByteArray := prog_2_method_7_code
def yX0_apartness : MethodName := ⟨RX0, "apartness", "(II)J"⟩
def RX1 : String := "ShunLots$Net"
def TX1 : u_T := fun k => match k with
  | 0 => ("ShunLots$Net", "edges", "I", true)
  | 1 => ("ShunLots$Net", "starts", "[I", true)
  | 2 => ("ShunLots$Net", "ends", "[I", true)
  | _ => ("ShunLots$Net", "weights", "[I", true)
def tyX1 : Nat → FieldType := fun k => match k with
  | 0 => .int
  | 1 => .array .int
  | 2 => .array .int
  | _ => .array .int
abbrev wsX10 : List Cond := u_ws RX1 TX1 4
theorem nmX1 : ∀ a, a < 4 → ∀ b, b < 4 → a ≠ b → (TX1 a).2.1 ≠ (TX1 b).2.1 := by decide +kernel
theorem tyX1_ok : ∀ k, k < 4 → parseFieldDescriptor (TX1 k).2.2.1 = some (tyX1 k) := by decide +kernel
abbrev cX1_init : ByteArray := prog_3_method_1_code
def yX1_init : MethodName := ⟨RX1, "<init>", "(I)V"⟩
abbrev cX1_put : ByteArray := prog_3_method_2_code
def yX1_put : MethodName := ⟨RX1, "put", "(IIII)V"⟩
abbrev cX1_sumOfTrees : ByteArray := prog_3_method_3_code
def yX1_sumOfTrees : MethodName := ⟨RX1, "sumOfTrees", "(ILShunLots$Square;)J"⟩
abbrev cX1_isTree : ByteArray := prog_3_method_4_code
def yX1_isTree : MethodName := ⟨RX1, "isTree", "(II)Z"⟩
abbrev cX1_joinedOnce : ByteArray := prog_3_method_5_code
def yX1_joinedOnce : MethodName := ⟨RX1, "joinedOnce", "(II)I"⟩
abbrev cX1_productOf : ByteArray := prog_3_method_6_code
def yX1_productOf : MethodName := ⟨RX1, "productOf", "(I)J"⟩
def RX2 : String := "ShunLots$Square"
def TX2 : u_T := fun k => match k with
  | 0 => ("ShunLots$Square", "cells", "[J", true)
  | 1 => ("ShunLots$Square", "minors", "[J", true)
  | _ => ("ShunLots$Square", "side", "I", false)
def tyX2 : Nat → FieldType := fun k => match k with
  | 0 => .array .long
  | 1 => .array .long
  | _ => .int
abbrev wsX20 : List Cond := u_ws RX2 TX2 3
theorem nmX2 : ∀ a, a < 3 → ∀ b, b < 3 → a ≠ b → (TX2 a).2.1 ≠ (TX2 b).2.1 := by decide +kernel
theorem tyX2_ok : ∀ k, k < 3 → parseFieldDescriptor (TX2 k).2.2.1 = some (tyX2 k) := by decide +kernel
abbrev cX2_init : ByteArray := prog_4_method_1_code
def yX2_init : MethodName := ⟨RX2, "<init>", "()V"⟩
abbrev cX2_begin : ByteArray := prog_4_method_2_code
def yX2_begin : MethodName := ⟨RX2, "begin", "(I)V"⟩
abbrev cX2_add : ByteArray := prog_4_method_3_code
def yX2_add : MethodName := ⟨RX2, "add", "(IIJ)V"⟩
abbrev cX2_determinant : ByteArray := prog_4_method_4_code
def yX2_determinant : MethodName := ⟨RX2, "determinant", "()J"⟩
abbrev cX2_alongLastRow : ByteArray := prog_4_method_5_code
def yX2_alongLastRow : MethodName := ⟨RX2, "alongLastRow", "(I)J"⟩
def RX3 : String := "ShunLots$Table"
def TX3 : u_T := fun k => match k with
  | 0 => ("ShunLots$Table", "width", "I", true)
  | _ => ("ShunLots$Table", "numbers", "[I", true)
def tyX3 : Nat → FieldType := fun k => match k with
  | 0 => .int
  | _ => .array .int
abbrev wsX30 : List Cond := u_ws RX3 TX3 2
theorem nmX3 : ∀ a, a < 2 → ∀ b, b < 2 → a ≠ b → (TX3 a).2.1 ≠ (TX3 b).2.1 := by decide +kernel
theorem tyX3_ok : ∀ k, k < 2 → parseFieldDescriptor (TX3 k).2.2.1 = some (tyX3 k) := by decide +kernel
abbrev cX3_init : ByteArray := prog_5_method_1_code
def yX3_init : MethodName := ⟨RX3, "<init>", "(I)V"⟩
abbrev cX3_put : ByteArray := prog_5_method_2_code
def yX3_put : MethodName := ⟨RX3, "put", "(III)V"⟩
abbrev cX3_at : ByteArray := prog_5_method_3_code
def yX3_at : MethodName := ⟨RX3, "at", "(II)I"⟩
abbrev cX3_worthOf : ByteArray := prog_5_method_4_code
def yX3_worthOf : MethodName := ⟨RX3, "worthOf", "(IILShunLots$Square;)J"⟩
abbrev cX3_layRow : ByteArray := prog_5_method_5_code
def yX3_layRow : MethodName := ⟨RX3, "layRow", "(IIILShunLots$Square;)V"⟩
def RX4 : String := "ShunLots"
def TX4 : u_T := fun k => match k with
  | 0 => ("ShunLots", "things", "I", true)
  | 1 => ("ShunLots", "sets", "I", true)
  | 2 => ("ShunLots", "tables", "[LShunLots$Table;", true)
  | 3 => ("ShunLots", "net", "LShunLots$Net;", true)
  | 4 => ("ShunLots", "laws", "[LShunLots$Law;", true)
  | 5 => ("ShunLots", "handShares", "[J", true)
  | 6 => ("ShunLots", "draft", "[J", true)
  | _ => ("ShunLots", "square", "LShunLots$Square;", true)
def tyX4 : Nat → FieldType := fun k => match k with
  | 0 => .int
  | 1 => .int
  | 2 => .array (.object "ShunLots$Table")
  | 3 => .object "ShunLots$Net"
  | 4 => .array (.object "ShunLots$Law")
  | 5 => .array .long
  | 6 => .array .long
  | _ => .object "ShunLots$Square"
abbrev wsX40 : List Cond := u_ws RX4 TX4 8
theorem nmX4 : ∀ a, a < 8 → ∀ b, b < 8 → a ≠ b → (TX4 a).2.1 ≠ (TX4 b).2.1 := by decide +kernel
theorem tyX4_ok : ∀ k, k < 8 → parseFieldDescriptor (TX4 k).2.2.1 = some (tyX4 k) := by decide +kernel
abbrev cX4_init : ByteArray := prog_1_method_1_code
def yX4_init : MethodName := ⟨RX4, "<init>", "(I)V"⟩
abbrev cX4_entry : ByteArray := prog_1_method_2_code
def yX4_entry : MethodName := ⟨RX4, "entry", "(IIII)Z"⟩
abbrev cX4_told : ByteArray := prog_1_method_3_code
def yX4_told : MethodName := ⟨RX4, "told", "(III)I"⟩
abbrev cX4_worth : ByteArray := prog_1_method_4_code
def yX4_worth : MethodName := ⟨RX4, "worth", "(II)J"⟩
abbrev cX4_why : ByteArray := prog_1_method_5_code
def yX4_why : MethodName := ⟨RX4, "why", "(I)I"⟩
abbrev cX4_whole : ByteArray := prog_1_method_6_code
def yX4_whole : MethodName := ⟨RX4, "whole", "(I)J"⟩
abbrev cX4_shun : ByteArray := prog_1_method_7_code
def yX4_shun : MethodName := ⟨RX4, "shun", "(II)Z"⟩
abbrev cX4_edge : ByteArray := prog_1_method_8_code
def yX4_edge : MethodName := ⟨RX4, "edge", "(IIII)Z"⟩
abbrev cX4_all : ByteArray := prog_1_method_9_code
def yX4_all : MethodName := ⟨RX4, "all", "(I)J"⟩
abbrev cX4_trees : ByteArray := prog_1_method_10_code
def yX4_trees : MethodName := ⟨RX4, "trees", "(II)Z"⟩
abbrev cX4_tell : ByteArray := prog_1_method_11_code
def yX4_tell : MethodName := ⟨RX4, "tell", "(II)Z"⟩
abbrev cX4_hand : ByteArray := prog_1_method_12_code
def yX4_hand : MethodName := ⟨RX4, "hand", "(I)Z"⟩
abbrev cX4_given : ByteArray := prog_1_method_13_code
def yX4_given : MethodName := ⟨RX4, "given", "(IIII)Z"⟩
abbrev cX4_thin : ByteArray := prog_1_method_14_code
def yX4_thin : MethodName := ⟨RX4, "thin", "(III)Z"⟩
abbrev cX4_part : ByteArray := prog_1_method_15_code
def yX4_part : MethodName := ⟨RX4, "part", "(III)Z"⟩
abbrev cX4_other : ByteArray := prog_1_method_16_code
def yX4_other : MethodName := ⟨RX4, "other", "(III)Z"⟩
abbrev cX4_mix : ByteArray := prog_1_method_17_code
def yX4_mix : MethodName := ⟨RX4, "mix", "(IIIII)Z"⟩
abbrev cX4_share : ByteArray := prog_1_method_18_code
def yX4_share : MethodName := ⟨RX4, "share", "(II)J"⟩
abbrev cX4_chance : ByteArray := prog_1_method_19_code
def yX4_chance : MethodName := ⟨RX4, "chance", "(III)J"⟩
abbrev cX4_within : ByteArray := prog_1_method_20_code
def yX4_within : MethodName := ⟨RX4, "within", "(III)J"⟩
abbrev cX4_out : ByteArray := prog_1_method_21_code
def yX4_out : MethodName := ⟨RX4, "out", "(III)J"⟩
abbrev cX4_size : ByteArray := prog_1_method_22_code
def yX4_size : MethodName := ⟨RX4, "size", "(III)J"⟩
abbrev cX4_mean : ByteArray := prog_1_method_23_code
def yX4_mean : MethodName := ⟨RX4, "mean", "(II)J"⟩
abbrev cX4_spread : ByteArray := prog_1_method_24_code
def yX4_spread : MethodName := ⟨RX4, "spread", "(II)J"⟩
abbrev cX4_both : ByteArray := prog_1_method_25_code
def yX4_both : MethodName := ⟨RX4, "both", "(IIII)J"⟩
abbrev cX4_shuns : ByteArray := prog_1_method_26_code
def yX4_shuns : MethodName := ⟨RX4, "shuns", "(I)I"⟩
abbrev cX4_rises : ByteArray := prog_1_method_27_code
def yX4_rises : MethodName := ⟨RX4, "rises", "(I)I"⟩
abbrev cX4_greatest : ByteArray := prog_1_method_28_code
def yX4_greatest : MethodName := ⟨RX4, "greatest", "(I)I"⟩
abbrev cX4_greedy : ByteArray := prog_1_method_29_code
def yX4_greedy : MethodName := ⟨RX4, "greedy", "(II)I"⟩
abbrev cX4_same : ByteArray := prog_1_method_30_code
def yX4_same : MethodName := ⟨RX4, "same", "(II)I"⟩
abbrev cX4_draw : ByteArray := prog_1_method_31_code
def yX4_draw : MethodName := ⟨RX4, "draw", "(IJ)I"⟩
abbrev cX4_isAmong : ByteArray := prog_1_method_32_code
def yX4_isAmong : MethodName := ⟨RX4, "isAmong", "(III)Z"⟩
abbrev cX4_isPlace : ByteArray := prog_1_method_33_code
def yX4_isPlace : MethodName := ⟨RX4, "isPlace", "(I)Z"⟩
abbrev cX4_isPost : ByteArray := prog_1_method_34_code
def yX4_isPost : MethodName := ⟨RX4, "isPost", "(I)Z"⟩
abbrev cX4_isPosts : ByteArray := prog_1_method_35_code
def yX4_isPosts : MethodName := ⟨RX4, "isPosts", "(I)Z"⟩
abbrev cX4_isWhat : ByteArray := prog_1_method_36_code
def yX4_isWhat : MethodName := ⟨RX4, "isWhat", "(I)Z"⟩
abbrev cX4_isThing : ByteArray := prog_1_method_37_code
def yX4_isThing : MethodName := ⟨RX4, "isThing", "(I)Z"⟩
abbrev cX4_isCount : ByteArray := prog_1_method_38_code
def yX4_isCount : MethodName := ⟨RX4, "isCount", "(I)Z"⟩
abbrev cX4_isSet : ByteArray := prog_1_method_39_code
def yX4_isSet : MethodName := ⟨RX4, "isSet", "(I)Z"⟩
abbrev cX4_lawAt : ByteArray := prog_1_method_40_code
def yX4_lawAt : MethodName := ⟨RX4, "lawAt", "(I)LShunLots$Law;"⟩
abbrev cX4_draftWorths : ByteArray := prog_1_method_41_code
def yX4_draftWorths : MethodName := ⟨RX4, "draftWorths", "(LShunLots$Table;)I"⟩
abbrev cX4_halveDraft : ByteArray := prog_1_method_42_code
def yX4_halveDraft : MethodName := ⟨RX4, "halveDraft", "(I)V"⟩
abbrev cX4_settle : ByteArray := prog_1_method_43_code
def yX4_settle : MethodName := ⟨RX4, "settle", "(I)Z"⟩
abbrev cX4_withBestThing : ByteArray := prog_1_method_44_code
def yX4_withBestThing : MethodName := ⟨RX4, "withBestThing", "(LShunLots$Law;I)I"⟩
abbrev cX4_has : ByteArray := prog_1_method_45_code
def yX4_has : MethodName := ⟨RX4, "has", "(II)Z"⟩
abbrev cX4_fits : ByteArray := prog_1_method_46_code
def yX4_fits : MethodName := ⟨RX4, "fits", "(III)Z"⟩
abbrev cX4_lowest : ByteArray := prog_1_method_47_code
def yX4_lowest : MethodName := ⟨RX4, "lowest", "(JJI)J"⟩
abbrev cX4_commonDivisor : ByteArray := prog_1_method_48_code
def yX4_commonDivisor : MethodName := ⟨RX4, "commonDivisor", "(JJ)J"⟩
def RX5 : String := "ShunLotsModel"
def TX5 : u_T := fun k => match k with
  | 0 => ("ShunLotsModel", "n", "I", true)
  | 1 => ("ShunLotsModel", "sets", "I", true)
  | 2 => ("ShunLotsModel", "table", "[I", true)
  | 3 => ("ShunLotsModel", "thing", "[I", true)
  | 4 => ("ShunLotsModel", "by", "[J", true)
  | 5 => ("ShunLotsModel", "law", "[J", true)
  | 6 => ("ShunLotsModel", "fresh", "[J", true)
  | 7 => ("ShunLotsModel", "hand", "[J", true)
  | 8 => ("ShunLotsModel", "isMade", "[Z", true)
  | 9 => ("ShunLotsModel", "edgeA", "[I", true)
  | 10 => ("ShunLotsModel", "edgeB", "[I", true)
  | 11 => ("ShunLotsModel", "weight", "[I", true)
  | _ => ("ShunLotsModel", "group", "[I", true)
def tyX5 : Nat → FieldType := fun k => match k with
  | 0 => .int
  | 1 => .int
  | 2 => .array .int
  | 3 => .array .int
  | 4 => .array .long
  | 5 => .array .long
  | 6 => .array .long
  | 7 => .array .long
  | 8 => .array .boolean
  | 9 => .array .int
  | 10 => .array .int
  | 11 => .array .int
  | _ => .array .int
abbrev wsX50 : List Cond := u_ws RX5 TX5 13
theorem nmX5 : ∀ a, a < 13 → ∀ b, b < 13 → a ≠ b → (TX5 a).2.1 ≠ (TX5 b).2.1 := by decide +kernel
theorem tyX5_ok : ∀ k, k < 13 → parseFieldDescriptor (TX5 k).2.2.1 = some (tyX5 k) := by decide +kernel
abbrev cX5_in : ByteArray := prog_7_method_1_code
def yX5_in : MethodName := ⟨RX5, "in", "(III)Z"⟩
abbrev cX5_init : ByteArray := prog_7_method_2_code
def yX5_init : MethodName := ⟨RX5, "<init>", "(I)V"⟩
abbrev cX5_isThing : ByteArray := prog_7_method_3_code
def yX5_isThing : MethodName := ⟨RX5, "isThing", "(I)Z"⟩
abbrev cX5_isSet : ByteArray := prog_7_method_4_code
def yX5_isSet : MethodName := ⟨RX5, "isSet", "(I)Z"⟩
abbrev cX5_isPlace : ByteArray := prog_7_method_5_code
def yX5_isPlace : MethodName := ⟨RX5, "isPlace", "(I)Z"⟩
abbrev cX5_sizeOf : ByteArray := prog_7_method_6_code
def yX5_sizeOf : MethodName := ⟨RX5, "sizeOf", "(I)I"⟩
abbrev cX5_entry : ByteArray := prog_7_method_7_code
def yX5_entry : MethodName := ⟨RX5, "entry", "(IIII)Z"⟩
abbrev cX5_told : ByteArray := prog_7_method_8_code
def yX5_told : MethodName := ⟨RX5, "told", "(III)I"⟩
abbrev cX5_determinant : ByteArray := prog_7_method_9_code
def yX5_determinant : MethodName := ⟨RX5, "determinant", "(III)J"⟩
abbrev cX5_worth : ByteArray := prog_7_method_10_code
def yX5_worth : MethodName := ⟨RX5, "worth", "(II)J"⟩
abbrev cX5_why : ByteArray := prog_7_method_11_code
def yX5_why : MethodName := ⟨RX5, "why", "(I)I"⟩
abbrev cX5_whole : ByteArray := prog_7_method_12_code
def yX5_whole : MethodName := ⟨RX5, "whole", "(I)J"⟩
abbrev cX5_isLaw : ByteArray := prog_7_method_13_code
def yX5_isLaw : MethodName := ⟨RX5, "isLaw", "(I)Z"⟩
abbrev cX5_common : ByteArray := prog_7_method_14_code
def yX5_common : MethodName := ⟨RX5, "common", "(JJ)J"⟩
abbrev cX5_clear : ByteArray := prog_7_method_15_code
def yX5_clear : MethodName := ⟨RX5, "clear", "()V"⟩
abbrev cX5_makes : ByteArray := prog_7_method_16_code
def yX5_makes : MethodName := ⟨RX5, "makes", "(I)Z"⟩
abbrev cX5_shun : ByteArray := prog_7_method_17_code
def yX5_shun : MethodName := ⟨RX5, "shun", "(II)Z"⟩
abbrev cX5_edge : ByteArray := prog_7_method_18_code
def yX5_edge : MethodName := ⟨RX5, "edge", "(IIII)Z"⟩
abbrev cX5_treeOf : ByteArray := prog_7_method_19_code
def yX5_treeOf : MethodName := ⟨RX5, "treeOf", "(II)J"⟩
abbrev cX5_all : ByteArray := prog_7_method_20_code
def yX5_all : MethodName := ⟨RX5, "all", "(I)J"⟩
abbrev cX5_trees : ByteArray := prog_7_method_21_code
def yX5_trees : MethodName := ⟨RX5, "trees", "(II)Z"⟩
abbrev cX5_tell : ByteArray := prog_7_method_22_code
def yX5_tell : MethodName := ⟨RX5, "tell", "(II)Z"⟩
abbrev cX5_hand : ByteArray := prog_7_method_23_code
def yX5_hand : MethodName := ⟨RX5, "hand", "(I)Z"⟩
abbrev cX5_given : ByteArray := prog_7_method_24_code
def yX5_given : MethodName := ⟨RX5, "given", "(IIII)Z"⟩
abbrev cX5_canBe : ByteArray := prog_7_method_25_code
def yX5_canBe : MethodName := ⟨RX5, "canBe", "(III)Z"⟩
abbrev cX5_thin : ByteArray := prog_7_method_26_code
def yX5_thin : MethodName := ⟨RX5, "thin", "(III)Z"⟩
abbrev cX5_part : ByteArray := prog_7_method_27_code
def yX5_part : MethodName := ⟨RX5, "part", "(III)Z"⟩
abbrev cX5_other : ByteArray := prog_7_method_28_code
def yX5_other : MethodName := ⟨RX5, "other", "(III)Z"⟩
abbrev cX5_sum : ByteArray := prog_7_method_29_code
def yX5_sum : MethodName := ⟨RX5, "sum", "(I)J"⟩
abbrev cX5_mix : ByteArray := prog_7_method_30_code
def yX5_mix : MethodName := ⟨RX5, "mix", "(IIIII)Z"⟩
abbrev cX5_share : ByteArray := prog_7_method_31_code
def yX5_share : MethodName := ⟨RX5, "share", "(II)J"⟩
abbrev cX5_fraction : ByteArray := prog_7_method_32_code
def yX5_fraction : MethodName := ⟨RX5, "fraction", "(JJI)J"⟩
abbrev cX5_isWhat : ByteArray := prog_7_method_33_code
def yX5_isWhat : MethodName := ⟨RX5, "isWhat", "(I)Z"⟩
abbrev cX5_chance : ByteArray := prog_7_method_34_code
def yX5_chance : MethodName := ⟨RX5, "chance", "(III)J"⟩
abbrev cX5_sumOf : ByteArray := prog_7_method_35_code
def yX5_sumOf : MethodName := ⟨RX5, "sumOf", "(III)J"⟩
abbrev cX5_within : ByteArray := prog_7_method_36_code
def yX5_within : MethodName := ⟨RX5, "within", "(III)J"⟩
abbrev cX5_out : ByteArray := prog_7_method_37_code
def yX5_out : MethodName := ⟨RX5, "out", "(III)J"⟩
abbrev cX5_ofSize : ByteArray := prog_7_method_38_code
def yX5_ofSize : MethodName := ⟨RX5, "ofSize", "(II)J"⟩
abbrev cX5_size : ByteArray := prog_7_method_39_code
def yX5_size : MethodName := ⟨RX5, "size", "(III)J"⟩
abbrev cX5_mean : ByteArray := prog_7_method_40_code
def yX5_mean : MethodName := ⟨RX5, "mean", "(II)J"⟩
abbrev cX5_spread : ByteArray := prog_7_method_41_code
def yX5_spread : MethodName := ⟨RX5, "spread", "(II)J"⟩
abbrev cX5_shunning : ByteArray := prog_7_method_42_code
def yX5_shunning : MethodName := ⟨RX5, "shunning", "(III)J"⟩
abbrev cX5_both : ByteArray := prog_7_method_43_code
def yX5_both : MethodName := ⟨RX5, "both", "(IIII)J"⟩
abbrev cX5_shuns : ByteArray := prog_7_method_44_code
def yX5_shuns : MethodName := ⟨RX5, "shuns", "(I)I"⟩
abbrev cX5_rises : ByteArray := prog_7_method_45_code
def yX5_rises : MethodName := ⟨RX5, "rises", "(I)I"⟩
abbrev cX5_greatest : ByteArray := prog_7_method_46_code
def yX5_greatest : MethodName := ⟨RX5, "greatest", "(I)I"⟩
abbrev cX5_greedy : ByteArray := prog_7_method_47_code
def yX5_greedy : MethodName := ⟨RX5, "greedy", "(II)I"⟩
abbrev cX5_same : ByteArray := prog_7_method_48_code
def yX5_same : MethodName := ⟨RX5, "same", "(II)I"⟩
abbrev cX5_draw : ByteArray := prog_7_method_49_code
def yX5_draw : MethodName := ⟨RX5, "draw", "(IJ)I"⟩
def RJ6 : String := "java/lang/Integer"
def TJ6 : u_T := fun k => match k with
  | _ => ("", "", "", false)
def tyJ6 : Nat → FieldType := fun k => match k with
  | _ => .int
abbrev wsJ60 : List Cond := u_ws RJ6 TJ6 0
theorem nmJ6 : ∀ a, a < 0 → ∀ b, b < 0 → a ≠ b → (TJ6 a).2.1 ≠ (TJ6 b).2.1 := by decide +kernel
theorem tyJ6_ok : ∀ k, k < 0 → parseFieldDescriptor (TJ6 k).2.2.1 = some (tyJ6 k) := by decide +kernel
abbrev cJ6_bitCount_0f7a4 : ByteArray := prog_8_method_49_code
def yJ6_bitCount_0f7a4 : MethodName := ⟨RJ6, "bitCount", "(I)I"⟩
def RJ9 : String := "java/lang/Math"
def TJ9 : u_T := fun k => match k with
  | _ => ("", "", "", false)
def tyJ9 : Nat → FieldType := fun k => match k with
  | _ => .int
abbrev wsJ90 : List Cond := u_ws RJ9 TJ9 0
theorem nmJ9 : ∀ a, a < 0 → ∀ b, b < 0 → a ≠ b → (TJ9 a).2.1 ≠ (TJ9 b).2.1 := by decide +kernel
theorem tyJ9_ok : ∀ k, k < 0 → parseFieldDescriptor (TJ9 k).2.2.1 = some (tyJ9 k) := by decide +kernel
abbrev cJ9_abs_067f4 : ByteArray := prog_9_method_61_code
def yJ9_abs_067f4 : MethodName := ⟨RJ9, "abs", "(J)J"⟩
abbrev cJ9_max_7cf53 : ByteArray := prog_9_method_65_code
def yJ9_max_7cf53 : MethodName := ⟨RJ9, "max", "(II)I"⟩
abbrev cJ9_min_7cf53 : ByteArray := prog_9_method_69_code
def yJ9_min_7cf53 : MethodName := ⟨RJ9, "min", "(II)I"⟩
def RJ10 : String := "java/lang/System"
def TJ10 : u_T := fun k => match k with
  | _ => ("", "", "", false)
def tyJ10 : Nat → FieldType := fun k => match k with
  | _ => .int
abbrev wsJ100 : List Cond := u_ws RJ10 TJ10 0
theorem nmJ10 : ∀ a, a < 0 → ∀ b, b < 0 → a ≠ b → (TJ10 a).2.1 ≠ (TJ10 b).2.1 := by decide +kernel
theorem tyJ10_ok : ∀ k, k < 0 → parseFieldDescriptor (TJ10 k).2.2.1 = some (tyJ10 k) := by decide +kernel
def RL : String := "ShunLotsLaw"
abbrev cL_cell : ByteArray := method_2_code
def yL_cell : MethodName := ⟨RL, "cell", "([II)I"⟩
abbrev cL_law : ByteArray := code
def yL_law : MethodName := ⟨RL, "law", "([I)Z"⟩
def wsX0_init : List Cond := .code yX0_init cX0_init 2 none :: ([.methodLink RX0 1 objectInit, .instanceMethod objectInit, .code objectInit ⟨#[0xb1]⟩ 1 none, .arrayClass .long, .fieldLink RX0 7 "ShunLots$Law" "shares" "[J"] ++ wsX00)
def wsX0_become : List Cond := .code yX0_become cX0_become 3 none :: ([.fieldLink RX0 13 "ShunLots$Law" "sum" "J", .fieldLink RX0 7 "ShunLots$Law" "shares" "[J", .fieldLink RX0 17 "ShunLots$Law" "made" "Z"] ++ wsX00)
def wsX4_fits : List Cond := .code yX4_fits cX4_fits 3 (some .boolean) :: ([])
def wsX0_sumFitting : List Cond := .code yX0_sumFitting cX0_sumFitting 6 (some .long) :: ([.fieldLink RX0 7 "ShunLots$Law" "shares" "[J", .static yX4_fits, .initialized RX4, .code yX4_fits cX4_fits 3 (some .boolean)] ++ wsX00)
def wsJ6_bitCount_0f7a4 : List Cond := .code yJ6_bitCount_0f7a4 cJ6_bitCount_0f7a4 1 (some .int) :: ([.constant RJ6 265 (1431655765), .constant RJ6 266 (858993459), .constant RJ6 267 (252645135)])
def wsX0_sumOfSize : List Cond := .code yX0_sumOfSize cX0_sumOfSize 5 (some .long) :: ([.fieldLink RX0 7 "ShunLots$Law" "shares" "[J", .methodLink RX0 27 yJ6_bitCount_0f7a4, .static yJ6_bitCount_0f7a4, .initialized RJ6, .code yJ6_bitCount_0f7a4 cJ6_bitCount_0f7a4 1 (some .int), .constant RJ6 265 (1431655765), .constant RJ6 266 (858993459), .constant RJ6 267 (252645135)] ++ wsX00)
def wsX0_sumOfCounts : List Cond := .code yX0_sumOfCounts cX0_sumOfCounts 4 (some .long) :: ([.fieldLink RX0 7 "ShunLots$Law" "shares" "[J", .methodLink RX0 27 yJ6_bitCount_0f7a4, .static yJ6_bitCount_0f7a4, .initialized RJ6, .code yJ6_bitCount_0f7a4 cJ6_bitCount_0f7a4 1 (some .int), .constant RJ6 265 (1431655765), .constant RJ6 266 (858993459), .constant RJ6 267 (252645135)] ++ wsX00)
def wsX0_sumOfSquares : List Cond := .code yX0_sumOfSquares cX0_sumOfSquares 6 (some .long) :: ([.fieldLink RX0 7 "ShunLots$Law" "shares" "[J", .methodLink RX0 27 yJ6_bitCount_0f7a4, .static yJ6_bitCount_0f7a4, .initialized RJ6, .code yJ6_bitCount_0f7a4 cJ6_bitCount_0f7a4 1 (some .int), .constant RJ6 265 (1431655765), .constant RJ6 266 (858993459), .constant RJ6 267 (252645135)] ++ wsX00)
def wsX0_apartness : List Cond := .code yX0_apartness cX0_apartness 3 (some .long) :: ([.fieldLink RX0 13 "ShunLots$Law" "sum" "J", .methodLink RX0 33 yX0_sumFitting, .instanceMethod yX0_sumFitting, .selects RX0 yX0_sumFitting yX0_sumFitting, .initialized RX0, .code yX0_sumFitting cX0_sumFitting 6 (some .long), .fieldLink RX0 7 "ShunLots$Law" "shares" "[J", .static yX4_fits, .initialized RX4, .code yX4_fits cX4_fits 3 (some .boolean)] ++ wsX00)
def wsX1_init : List Cond := .code yX1_init cX1_init 2 none :: ([.methodLink RX1 1 objectInit, .instanceMethod objectInit, .code objectInit ⟨#[0xb1]⟩ 1 none, .fieldLink RX1 7 "ShunLots$Net" "edges" "I", .arrayClass .int, .fieldLink RX1 13 "ShunLots$Net" "starts" "[I", .fieldLink RX1 17 "ShunLots$Net" "ends" "[I", .fieldLink RX1 20 "ShunLots$Net" "weights" "[I"] ++ wsX10)
def wsX1_put : List Cond := .code yX1_put cX1_put 5 none :: ([.fieldLink RX1 13 "ShunLots$Net" "starts" "[I", .fieldLink RX1 17 "ShunLots$Net" "ends" "[I", .fieldLink RX1 20 "ShunLots$Net" "weights" "[I"] ++ wsX10)
def wsX2_begin : List Cond := .code yX2_begin cX2_begin 3 none :: ([.methodLink RX2 18 Lib.Math.min.name, .static Lib.Math.min.name, .initialized "java/lang/Math", .code Lib.Math.min.name Lib.Math.min.code 2 (some .int), .methodLink RX2 24 Lib.Math.max.name, .static Lib.Math.max.name, .code Lib.Math.max.name Lib.Math.max.code 2 (some .int), .fieldLink RX2 27 "ShunLots$Square" "side" "I", .fieldLink RX2 9 "ShunLots$Square" "cells" "[J"] ++ wsX20)
def wsX4_isAmong : List Cond := .code yX4_isAmong cX4_isAmong 3 (some .boolean) :: ([])
def wsX2_add : List Cond := .code yX2_add cX2_add 5 none :: ([.fieldLink RX2 27 "ShunLots$Square" "side" "I", .fieldLink RX2 9 "ShunLots$Square" "cells" "[J", .static yX4_isAmong, .initialized RX4, .code yX4_isAmong cX4_isAmong 3 (some .boolean)] ++ wsX20)
def wsX2_alongLastRow : List Cond := .code yX2_alongLastRow cX2_alongLastRow 9 (some .long) :: ([.fieldLink RX2 27 "ShunLots$Square" "side" "I", .fieldLink RX2 9 "ShunLots$Square" "cells" "[J", .fieldLink RX2 15 "ShunLots$Square" "minors" "[J", .methodLink RX2 39 yJ6_bitCount_0f7a4, .static yJ6_bitCount_0f7a4, .initialized RJ6, .code yJ6_bitCount_0f7a4 cJ6_bitCount_0f7a4 1 (some .int), .constant RJ6 265 (1431655765), .constant RJ6 266 (858993459), .constant RJ6 267 (252645135)] ++ wsX20)
def wsX2_determinant : List Cond := .code yX2_determinant cX2_determinant 3 (some .long) :: ([.fieldLink RX2 15 "ShunLots$Square" "minors" "[J", .fieldLink RX2 27 "ShunLots$Square" "side" "I", .methodLink RX2 35 yX2_alongLastRow, .instanceMethod yX2_alongLastRow, .selects RX2 yX2_alongLastRow yX2_alongLastRow, .initialized RX2, .code yX2_alongLastRow cX2_alongLastRow 9 (some .long), .fieldLink RX2 9 "ShunLots$Square" "cells" "[J", .methodLink RX2 39 yJ6_bitCount_0f7a4, .static yJ6_bitCount_0f7a4, .initialized RJ6, .code yJ6_bitCount_0f7a4 cJ6_bitCount_0f7a4 1 (some .int), .constant RJ6 265 (1431655765), .constant RJ6 266 (858993459), .constant RJ6 267 (252645135)] ++ wsX20)
def wsX1_sumOfTrees_r1 : List Cond := [Cond.fieldLink RX1 7 "ShunLots$Net" "edges" "I", Cond.fieldLink RX1 13 "ShunLots$Net" "starts" "[I", Cond.fieldLink RX1 17 "ShunLots$Net" "ends" "[I", Cond.fieldLink RX1 20 "ShunLots$Net" "weights" "[I", Cond.methodLink RX1 23 yX2_begin, Cond.instanceMethod yX2_begin, Cond.selects RX2 yX2_begin yX2_begin, Cond.initialized RX2, Cond.code yX2_begin cX2_begin 3 none, Cond.methodLink RX2 18 Lib.Math.min.name, Cond.static Lib.Math.min.name, Cond.initialized "java/lang/Math", Cond.code Lib.Math.min.name Lib.Math.min.code 2 (some .int), Cond.methodLink RX2 24 Lib.Math.max.name, Cond.static Lib.Math.max.name, Cond.code Lib.Math.max.name Lib.Math.max.code 2 (some .int), Cond.fieldLink RX2 27 "ShunLots$Square" "side" "I", Cond.fieldLink RX2 9 "ShunLots$Square" "cells" "[J", Cond.methodLink RX1 29 yX2_add, Cond.instanceMethod yX2_add, Cond.selects RX2 yX2_add yX2_add, Cond.code yX2_add cX2_add 5 none, Cond.static yX4_isAmong, Cond.initialized RX4]
def wsX1_sumOfTrees_r2 : List Cond := [Cond.code yX4_isAmong cX4_isAmong 3 (some .boolean), Cond.methodLink RX1 33 yX2_determinant, Cond.instanceMethod yX2_determinant, Cond.selects RX2 yX2_determinant yX2_determinant, Cond.code yX2_determinant cX2_determinant 3 (some .long), Cond.fieldLink RX2 15 "ShunLots$Square" "minors" "[J", Cond.methodLink RX2 35 yX2_alongLastRow, Cond.instanceMethod yX2_alongLastRow, Cond.selects RX2 yX2_alongLastRow yX2_alongLastRow, Cond.code yX2_alongLastRow cX2_alongLastRow 9 (some .long), Cond.methodLink RX2 39 yJ6_bitCount_0f7a4, Cond.static yJ6_bitCount_0f7a4, Cond.initialized RJ6, Cond.code yJ6_bitCount_0f7a4 cJ6_bitCount_0f7a4 1 (some .int), Cond.constant RJ6 265 (1431655765), Cond.constant RJ6 266 (858993459), Cond.constant RJ6 267 (252645135)]
def wsX1_sumOfTrees : List Cond := .code yX1_sumOfTrees cX1_sumOfTrees 4 (some .long) :: ((wsX1_sumOfTrees_r1 ++ wsX1_sumOfTrees_r2) ++ wsX10 ++ wsX20)
def wsX4_has : List Cond := .code yX4_has cX4_has 2 (some .boolean) :: ([])
def wsX1_joinedOnce : List Cond := .code yX1_joinedOnce cX1_joinedOnce 6 (some .int) :: ([.fieldLink RX1 7 "ShunLots$Net" "edges" "I", .fieldLink RX1 13 "ShunLots$Net" "starts" "[I", .fieldLink RX1 17 "ShunLots$Net" "ends" "[I", .static yX4_has, .initialized RX4, .code yX4_has cX4_has 2 (some .boolean)] ++ wsX10)
def wsX1_isTree : List Cond := .code yX1_isTree cX1_isTree 5 (some .boolean) :: ([.methodLink RX1 37 yJ6_bitCount_0f7a4, .static yJ6_bitCount_0f7a4, .initialized RJ6, .code yJ6_bitCount_0f7a4 cJ6_bitCount_0f7a4 1 (some .int), .constant RJ6 265 (1431655765), .constant RJ6 266 (858993459), .constant RJ6 267 (252645135), .methodLink RX1 43 yX1_joinedOnce, .instanceMethod yX1_joinedOnce, .selects RX1 yX1_joinedOnce yX1_joinedOnce, .initialized RX1, .code yX1_joinedOnce cX1_joinedOnce 6 (some .int), .fieldLink RX1 7 "ShunLots$Net" "edges" "I", .fieldLink RX1 13 "ShunLots$Net" "starts" "[I", .fieldLink RX1 17 "ShunLots$Net" "ends" "[I", .static yX4_has, .initialized RX4, .code yX4_has cX4_has 2 (some .boolean)] ++ wsX10)
def wsX1_productOf : List Cond := .code yX1_productOf cX1_productOf 5 (some .long) :: ([.fieldLink RX1 7 "ShunLots$Net" "edges" "I", .fieldLink RX1 20 "ShunLots$Net" "weights" "[I", .static yX4_has, .initialized RX4, .code yX4_has cX4_has 2 (some .boolean)] ++ wsX10)
def wsX2_init : List Cond := .code yX2_init cX2_init 1 none :: ([.methodLink RX2 3 objectInit, .instanceMethod objectInit, .code objectInit ⟨#[0xb1]⟩ 1 none, .arrayClass .long, .fieldLink RX2 9 "ShunLots$Square" "cells" "[J", .fieldLink RX2 15 "ShunLots$Square" "minors" "[J"] ++ wsX20)
def wsX3_init : List Cond := .code yX3_init cX3_init 2 none :: ([.methodLink RX3 1 objectInit, .instanceMethod objectInit, .code objectInit ⟨#[0xb1]⟩ 1 none, .fieldLink RX3 7 "ShunLots$Table" "width" "I", .arrayClass .int, .fieldLink RX3 13 "ShunLots$Table" "numbers" "[I"] ++ wsX30)
def wsX3_put : List Cond := .code yX3_put cX3_put 4 none :: ([.fieldLink RX3 13 "ShunLots$Table" "numbers" "[I", .fieldLink RX3 7 "ShunLots$Table" "width" "I"] ++ wsX30)
def wsX3_at : List Cond := .code yX3_at cX3_at 3 (some .int) :: ([.fieldLink RX3 13 "ShunLots$Table" "numbers" "[I", .fieldLink RX3 7 "ShunLots$Table" "width" "I"] ++ wsX30)
def wsX3_layRow : List Cond := .code yX3_layRow cX3_layRow 7 none :: ([.fieldLink RX3 7 "ShunLots$Table" "width" "I", .static yX4_has, .initialized RX4, .code yX4_has cX4_has 2 (some .boolean), .methodLink RX3 47 yX3_at, .instanceMethod yX3_at, .selects RX3 yX3_at yX3_at, .initialized RX3, .code yX3_at cX3_at 3 (some .int), .fieldLink RX3 13 "ShunLots$Table" "numbers" "[I", .methodLink RX3 39 yX2_add, .instanceMethod yX2_add, .selects RX2 yX2_add yX2_add, .initialized RX2, .code yX2_add cX2_add 5 none, .fieldLink RX2 27 "ShunLots$Square" "side" "I", .fieldLink RX2 9 "ShunLots$Square" "cells" "[J", .static yX4_isAmong, .code yX4_isAmong cX4_isAmong 3 (some .boolean)] ++ wsX30 ++ wsX20)
def wsX3_worthOf_r1 : List Cond := [Cond.fieldLink RX3 7 "ShunLots$Table" "width" "I", Cond.methodLink RX3 17 yJ6_bitCount_0f7a4, Cond.static yJ6_bitCount_0f7a4, Cond.initialized RJ6, Cond.code yJ6_bitCount_0f7a4 cJ6_bitCount_0f7a4 1 (some .int), Cond.constant RJ6 265 (1431655765), Cond.constant RJ6 266 (858993459), Cond.constant RJ6 267 (252645135), Cond.methodLink RX3 23 yX2_begin, Cond.instanceMethod yX2_begin, Cond.selects RX2 yX2_begin yX2_begin, Cond.initialized RX2, Cond.code yX2_begin cX2_begin 3 none, Cond.methodLink RX2 18 Lib.Math.min.name, Cond.static Lib.Math.min.name, Cond.initialized "java/lang/Math", Cond.code Lib.Math.min.name Lib.Math.min.code 2 (some .int), Cond.methodLink RX2 24 Lib.Math.max.name, Cond.static Lib.Math.max.name, Cond.code Lib.Math.max.name Lib.Math.max.code 2 (some .int), Cond.fieldLink RX2 27 "ShunLots$Square" "side" "I", Cond.fieldLink RX2 9 "ShunLots$Square" "cells" "[J", Cond.static yX4_has, Cond.initialized RX4]
def wsX3_worthOf_r2 : List Cond := [Cond.code yX4_has cX4_has 2 (some .boolean), Cond.methodLink RX3 35 yX3_layRow, Cond.instanceMethod yX3_layRow, Cond.selects RX3 yX3_layRow yX3_layRow, Cond.initialized RX3, Cond.code yX3_layRow cX3_layRow 7 none, Cond.methodLink RX3 47 yX3_at, Cond.instanceMethod yX3_at, Cond.selects RX3 yX3_at yX3_at, Cond.code yX3_at cX3_at 3 (some .int), Cond.fieldLink RX3 13 "ShunLots$Table" "numbers" "[I", Cond.methodLink RX3 39 yX2_add, Cond.instanceMethod yX2_add, Cond.selects RX2 yX2_add yX2_add, Cond.code yX2_add cX2_add 5 none, Cond.static yX4_isAmong, Cond.code yX4_isAmong cX4_isAmong 3 (some .boolean), Cond.methodLink RX3 43 yX2_determinant, Cond.instanceMethod yX2_determinant, Cond.selects RX2 yX2_determinant yX2_determinant, Cond.code yX2_determinant cX2_determinant 3 (some .long), Cond.fieldLink RX2 15 "ShunLots$Square" "minors" "[J", Cond.methodLink RX2 35 yX2_alongLastRow, Cond.instanceMethod yX2_alongLastRow]
def wsX3_worthOf_r3 : List Cond := [Cond.selects RX2 yX2_alongLastRow yX2_alongLastRow, Cond.code yX2_alongLastRow cX2_alongLastRow 9 (some .long), Cond.methodLink RX2 39 yJ6_bitCount_0f7a4]
def wsX3_worthOf : List Cond := .code yX3_worthOf cX3_worthOf 6 (some .long) :: ((wsX3_worthOf_r1 ++ (wsX3_worthOf_r2 ++ wsX3_worthOf_r3)) ++ wsX30 ++ wsX20)
def wsX4_init_r1 : List Cond := [Cond.methodLink RX4 1 objectInit, Cond.instanceMethod objectInit, Cond.code objectInit ⟨#[0xb1]⟩ 1 none, Cond.methodLink RX4 9 Lib.Math.min.name, Cond.static Lib.Math.min.name, Cond.initialized "java/lang/Math", Cond.code Lib.Math.min.name Lib.Math.min.code 2 (some .int), Cond.methodLink RX4 15 Lib.Math.max.name, Cond.static Lib.Math.max.name, Cond.code Lib.Math.max.name Lib.Math.max.code 2 (some .int), Cond.fieldLink RX4 18 "ShunLots" "things" "I", Cond.fieldLink RX4 22 "ShunLots" "sets" "I", Cond.classLink RX4 25 RX3, Cond.fieldLink RX4 27 "ShunLots" "tables" "[LShunLots$Table;", Cond.classLink RX4 31 RX0, Cond.fieldLink RX4 33 "ShunLots" "laws" "[LShunLots$Law;", Cond.instantiable RX3 2, Cond.initialized RX3, Cond.instantiable RX0 3, Cond.initialized RX0, Cond.classLink RX4 41 RX1, Cond.instantiable RX1 4, Cond.initialized RX1, Cond.fieldLink RX4 44 "ShunLots" "net" "LShunLots$Net;"]
def wsX4_init_r2 : List Cond := [Cond.arrayClass .long, Cond.fieldLink RX4 48 "ShunLots" "handShares" "[J", Cond.fieldLink RX4 52 "ShunLots" "draft" "[J", Cond.classLink RX4 55 RX2, Cond.instantiable RX2 3, Cond.initialized RX2, Cond.fieldLink RX4 58 "ShunLots" "square" "LShunLots$Square;", Cond.methodLink RX4 37 yX3_init, Cond.instanceMethod yX3_init, Cond.code yX3_init cX3_init 2 none, Cond.methodLink RX3 1 objectInit, Cond.fieldLink RX3 7 "ShunLots$Table" "width" "I", Cond.arrayClass .int, Cond.fieldLink RX3 13 "ShunLots$Table" "numbers" "[I", Cond.methodLink RX4 40 yX0_init, Cond.instanceMethod yX0_init, Cond.code yX0_init cX0_init 2 none, Cond.methodLink RX0 1 objectInit, Cond.fieldLink RX0 7 "ShunLots$Law" "shares" "[J", Cond.methodLink RX4 43 yX1_init, Cond.instanceMethod yX1_init, Cond.code yX1_init cX1_init 2 none, Cond.methodLink RX1 1 objectInit, Cond.fieldLink RX1 7 "ShunLots$Net" "edges" "I"]
def wsX4_init_r3 : List Cond := [Cond.fieldLink RX1 13 "ShunLots$Net" "starts" "[I", Cond.fieldLink RX1 17 "ShunLots$Net" "ends" "[I", Cond.fieldLink RX1 20 "ShunLots$Net" "weights" "[I", Cond.instanceMethod yX2_init, Cond.code yX2_init cX2_init 1 none, Cond.methodLink RX2 3 objectInit, Cond.fieldLink RX2 9 "ShunLots$Square" "cells" "[J", Cond.fieldLink RX2 15 "ShunLots$Square" "minors" "[J"]
def wsX4_init : List Cond := .code yX4_init cX4_init 3 none :: ((wsX4_init_r1 ++ (wsX4_init_r2 ++ wsX4_init_r3)) ++ wsX40 ++ wsX30 ++ wsX00 ++ wsX10 ++ wsX20)
def wsX4_isPlace : List Cond := .code yX4_isPlace cX4_isPlace 1 (some .boolean) :: ([.methodLink RX4 69 yX4_isAmong, .static yX4_isAmong, .initialized RX4, .code yX4_isAmong cX4_isAmong 3 (some .boolean)])
def wsX4_isThing : List Cond := .code yX4_isThing cX4_isThing 2 (some .boolean) :: ([.fieldLink RX4 18 "ShunLots" "things" "I", .methodLink RX4 69 yX4_isAmong, .static yX4_isAmong, .initialized RX4, .code yX4_isAmong cX4_isAmong 3 (some .boolean)] ++ wsX40)
def wsX4_entry : List Cond := .code yX4_entry cX4_entry 5 (some .boolean) :: ([.fieldLink RX4 27 "ShunLots" "tables" "[LShunLots$Table;", .methodLink RX4 62 yX4_isPlace, .static yX4_isPlace, .initialized RX4, .code yX4_isPlace cX4_isPlace 1 (some .boolean), .methodLink RX4 69 yX4_isAmong, .static yX4_isAmong, .code yX4_isAmong cX4_isAmong 3 (some .boolean), .methodLink RX4 66 yX4_isThing, .instanceMethod yX4_isThing, .selects RX4 yX4_isThing yX4_isThing, .code yX4_isThing cX4_isThing 2 (some .boolean), .fieldLink RX4 18 "ShunLots" "things" "I", .methodLink RX4 73 yX3_put, .instanceMethod yX3_put, .selects RX3 yX3_put yX3_put, .initialized RX3, .code yX3_put cX3_put 4 none, .fieldLink RX3 13 "ShunLots$Table" "numbers" "[I", .fieldLink RX3 7 "ShunLots$Table" "width" "I"] ++ wsX40 ++ wsX30)
def wsX4_told : List Cond := .code yX4_told cX4_told 4 (some .int) :: ([.fieldLink RX4 27 "ShunLots" "tables" "[LShunLots$Table;", .methodLink RX4 62 yX4_isPlace, .static yX4_isPlace, .initialized RX4, .code yX4_isPlace cX4_isPlace 1 (some .boolean), .methodLink RX4 69 yX4_isAmong, .static yX4_isAmong, .code yX4_isAmong cX4_isAmong 3 (some .boolean), .methodLink RX4 66 yX4_isThing, .instanceMethod yX4_isThing, .selects RX4 yX4_isThing yX4_isThing, .code yX4_isThing cX4_isThing 2 (some .boolean), .fieldLink RX4 18 "ShunLots" "things" "I", .methodLink RX4 77 yX3_at, .instanceMethod yX3_at, .selects RX3 yX3_at yX3_at, .initialized RX3, .code yX3_at cX3_at 3 (some .int), .fieldLink RX3 13 "ShunLots$Table" "numbers" "[I", .fieldLink RX3 7 "ShunLots$Table" "width" "I"] ++ wsX40 ++ wsX30)
def wsX4_isSet : List Cond := .code yX4_isSet cX4_isSet 2 (some .boolean) :: ([.fieldLink RX4 22 "ShunLots" "sets" "I", .methodLink RX4 69 yX4_isAmong, .static yX4_isAmong, .initialized RX4, .code yX4_isAmong cX4_isAmong 3 (some .boolean)] ++ wsX40)
def wsX4_worth_r1 : List Cond := [Cond.fieldLink RX4 27 "ShunLots" "tables" "[LShunLots$Table;", Cond.fieldLink RX4 58 "ShunLots" "square" "LShunLots$Square;", Cond.methodLink RX4 62 yX4_isPlace, Cond.static yX4_isPlace, Cond.initialized RX4, Cond.code yX4_isPlace cX4_isPlace 1 (some .boolean), Cond.methodLink RX4 69 yX4_isAmong, Cond.static yX4_isAmong, Cond.code yX4_isAmong cX4_isAmong 3 (some .boolean), Cond.methodLink RX4 80 yX4_isSet, Cond.instanceMethod yX4_isSet, Cond.selects RX4 yX4_isSet yX4_isSet, Cond.code yX4_isSet cX4_isSet 2 (some .boolean), Cond.fieldLink RX4 22 "ShunLots" "sets" "I", Cond.methodLink RX4 83 yX3_worthOf, Cond.instanceMethod yX3_worthOf, Cond.selects RX3 yX3_worthOf yX3_worthOf, Cond.initialized RX3, Cond.code yX3_worthOf cX3_worthOf 6 (some .long), Cond.fieldLink RX3 7 "ShunLots$Table" "width" "I", Cond.methodLink RX3 17 yJ6_bitCount_0f7a4, Cond.static yJ6_bitCount_0f7a4, Cond.initialized RJ6, Cond.code yJ6_bitCount_0f7a4 cJ6_bitCount_0f7a4 1 (some .int)]
def wsX4_worth_r2 : List Cond := [Cond.constant RJ6 265 (1431655765), Cond.constant RJ6 266 (858993459), Cond.constant RJ6 267 (252645135), Cond.methodLink RX3 23 yX2_begin, Cond.instanceMethod yX2_begin, Cond.selects RX2 yX2_begin yX2_begin, Cond.initialized RX2, Cond.code yX2_begin cX2_begin 3 none, Cond.methodLink RX2 18 Lib.Math.min.name, Cond.static Lib.Math.min.name, Cond.initialized "java/lang/Math", Cond.code Lib.Math.min.name Lib.Math.min.code 2 (some .int), Cond.methodLink RX2 24 Lib.Math.max.name, Cond.static Lib.Math.max.name, Cond.code Lib.Math.max.name Lib.Math.max.code 2 (some .int), Cond.fieldLink RX2 27 "ShunLots$Square" "side" "I", Cond.fieldLink RX2 9 "ShunLots$Square" "cells" "[J", Cond.static yX4_has, Cond.code yX4_has cX4_has 2 (some .boolean), Cond.methodLink RX3 35 yX3_layRow, Cond.instanceMethod yX3_layRow, Cond.selects RX3 yX3_layRow yX3_layRow, Cond.code yX3_layRow cX3_layRow 7 none, Cond.methodLink RX3 47 yX3_at]
def wsX4_worth_r3 : List Cond := [Cond.instanceMethod yX3_at, Cond.selects RX3 yX3_at yX3_at, Cond.code yX3_at cX3_at 3 (some .int), Cond.fieldLink RX3 13 "ShunLots$Table" "numbers" "[I", Cond.methodLink RX3 39 yX2_add, Cond.instanceMethod yX2_add, Cond.selects RX2 yX2_add yX2_add, Cond.code yX2_add cX2_add 5 none, Cond.methodLink RX3 43 yX2_determinant, Cond.instanceMethod yX2_determinant, Cond.selects RX2 yX2_determinant yX2_determinant, Cond.code yX2_determinant cX2_determinant 3 (some .long), Cond.fieldLink RX2 15 "ShunLots$Square" "minors" "[J", Cond.methodLink RX2 35 yX2_alongLastRow, Cond.instanceMethod yX2_alongLastRow, Cond.selects RX2 yX2_alongLastRow yX2_alongLastRow, Cond.code yX2_alongLastRow cX2_alongLastRow 9 (some .long), Cond.methodLink RX2 39 yJ6_bitCount_0f7a4]
def wsX4_worth : List Cond := .code yX4_worth cX4_worth 3 (some .long) :: ((wsX4_worth_r1 ++ (wsX4_worth_r2 ++ wsX4_worth_r3)) ++ wsX40 ++ wsX30 ++ wsX20)
def wsX4_draftWorths_r1 : List Cond := [Cond.fieldLink RX4 22 "ShunLots" "sets" "I", Cond.fieldLink RX4 52 "ShunLots" "draft" "[J", Cond.fieldLink RX4 58 "ShunLots" "square" "LShunLots$Square;", Cond.methodLink RX4 83 yX3_worthOf, Cond.instanceMethod yX3_worthOf, Cond.selects RX3 yX3_worthOf yX3_worthOf, Cond.initialized RX3, Cond.code yX3_worthOf cX3_worthOf 6 (some .long), Cond.fieldLink RX3 7 "ShunLots$Table" "width" "I", Cond.methodLink RX3 17 yJ6_bitCount_0f7a4, Cond.static yJ6_bitCount_0f7a4, Cond.initialized RJ6, Cond.code yJ6_bitCount_0f7a4 cJ6_bitCount_0f7a4 1 (some .int), Cond.constant RJ6 265 (1431655765), Cond.constant RJ6 266 (858993459), Cond.constant RJ6 267 (252645135), Cond.methodLink RX3 23 yX2_begin, Cond.instanceMethod yX2_begin, Cond.selects RX2 yX2_begin yX2_begin, Cond.initialized RX2, Cond.code yX2_begin cX2_begin 3 none, Cond.methodLink RX2 18 Lib.Math.min.name, Cond.static Lib.Math.min.name, Cond.initialized "java/lang/Math"]
def wsX4_draftWorths_r2 : List Cond := [Cond.code Lib.Math.min.name Lib.Math.min.code 2 (some .int), Cond.methodLink RX2 24 Lib.Math.max.name, Cond.static Lib.Math.max.name, Cond.code Lib.Math.max.name Lib.Math.max.code 2 (some .int), Cond.fieldLink RX2 27 "ShunLots$Square" "side" "I", Cond.fieldLink RX2 9 "ShunLots$Square" "cells" "[J", Cond.static yX4_has, Cond.initialized RX4, Cond.code yX4_has cX4_has 2 (some .boolean), Cond.methodLink RX3 35 yX3_layRow, Cond.instanceMethod yX3_layRow, Cond.selects RX3 yX3_layRow yX3_layRow, Cond.code yX3_layRow cX3_layRow 7 none, Cond.methodLink RX3 47 yX3_at, Cond.instanceMethod yX3_at, Cond.selects RX3 yX3_at yX3_at, Cond.code yX3_at cX3_at 3 (some .int), Cond.fieldLink RX3 13 "ShunLots$Table" "numbers" "[I", Cond.methodLink RX3 39 yX2_add, Cond.instanceMethod yX2_add, Cond.selects RX2 yX2_add yX2_add, Cond.code yX2_add cX2_add 5 none, Cond.static yX4_isAmong, Cond.code yX4_isAmong cX4_isAmong 3 (some .boolean)]
def wsX4_draftWorths_r3 : List Cond := [Cond.methodLink RX3 43 yX2_determinant, Cond.instanceMethod yX2_determinant, Cond.selects RX2 yX2_determinant yX2_determinant, Cond.code yX2_determinant cX2_determinant 3 (some .long), Cond.fieldLink RX2 15 "ShunLots$Square" "minors" "[J", Cond.methodLink RX2 35 yX2_alongLastRow, Cond.instanceMethod yX2_alongLastRow, Cond.selects RX2 yX2_alongLastRow yX2_alongLastRow, Cond.code yX2_alongLastRow cX2_alongLastRow 9 (some .long), Cond.methodLink RX2 39 yJ6_bitCount_0f7a4]
def wsX4_draftWorths : List Cond := .code yX4_draftWorths cX4_draftWorths 3 (some .int) :: ((wsX4_draftWorths_r1 ++ (wsX4_draftWorths_r2 ++ wsX4_draftWorths_r3)) ++ wsX40 ++ wsX30 ++ wsX20)
def wsX4_why_r1 : List Cond := [Cond.fieldLink RX4 27 "ShunLots" "tables" "[LShunLots$Table;", Cond.methodLink RX4 62 yX4_isPlace, Cond.static yX4_isPlace, Cond.initialized RX4, Cond.code yX4_isPlace cX4_isPlace 1 (some .boolean), Cond.methodLink RX4 69 yX4_isAmong, Cond.static yX4_isAmong, Cond.code yX4_isAmong cX4_isAmong 3 (some .boolean), Cond.methodLink RX4 87 yX4_draftWorths, Cond.instanceMethod yX4_draftWorths, Cond.selects RX4 yX4_draftWorths yX4_draftWorths, Cond.code yX4_draftWorths cX4_draftWorths 3 (some .int), Cond.fieldLink RX4 22 "ShunLots" "sets" "I", Cond.fieldLink RX4 52 "ShunLots" "draft" "[J", Cond.fieldLink RX4 58 "ShunLots" "square" "LShunLots$Square;", Cond.methodLink RX4 83 yX3_worthOf, Cond.instanceMethod yX3_worthOf, Cond.selects RX3 yX3_worthOf yX3_worthOf, Cond.initialized RX3, Cond.code yX3_worthOf cX3_worthOf 6 (some .long), Cond.fieldLink RX3 7 "ShunLots$Table" "width" "I", Cond.methodLink RX3 17 yJ6_bitCount_0f7a4, Cond.static yJ6_bitCount_0f7a4, Cond.initialized RJ6]
def wsX4_why_r2 : List Cond := [Cond.code yJ6_bitCount_0f7a4 cJ6_bitCount_0f7a4 1 (some .int), Cond.constant RJ6 265 (1431655765), Cond.constant RJ6 266 (858993459), Cond.constant RJ6 267 (252645135), Cond.methodLink RX3 23 yX2_begin, Cond.instanceMethod yX2_begin, Cond.selects RX2 yX2_begin yX2_begin, Cond.initialized RX2, Cond.code yX2_begin cX2_begin 3 none, Cond.methodLink RX2 18 Lib.Math.min.name, Cond.static Lib.Math.min.name, Cond.initialized "java/lang/Math", Cond.code Lib.Math.min.name Lib.Math.min.code 2 (some .int), Cond.methodLink RX2 24 Lib.Math.max.name, Cond.static Lib.Math.max.name, Cond.code Lib.Math.max.name Lib.Math.max.code 2 (some .int), Cond.fieldLink RX2 27 "ShunLots$Square" "side" "I", Cond.fieldLink RX2 9 "ShunLots$Square" "cells" "[J", Cond.static yX4_has, Cond.code yX4_has cX4_has 2 (some .boolean), Cond.methodLink RX3 35 yX3_layRow, Cond.instanceMethod yX3_layRow, Cond.selects RX3 yX3_layRow yX3_layRow, Cond.code yX3_layRow cX3_layRow 7 none]
def wsX4_why_r3 : List Cond := [Cond.methodLink RX3 47 yX3_at, Cond.instanceMethod yX3_at, Cond.selects RX3 yX3_at yX3_at, Cond.code yX3_at cX3_at 3 (some .int), Cond.fieldLink RX3 13 "ShunLots$Table" "numbers" "[I", Cond.methodLink RX3 39 yX2_add, Cond.instanceMethod yX2_add, Cond.selects RX2 yX2_add yX2_add, Cond.code yX2_add cX2_add 5 none, Cond.methodLink RX3 43 yX2_determinant, Cond.instanceMethod yX2_determinant, Cond.selects RX2 yX2_determinant yX2_determinant, Cond.code yX2_determinant cX2_determinant 3 (some .long), Cond.fieldLink RX2 15 "ShunLots$Square" "minors" "[J", Cond.methodLink RX2 35 yX2_alongLastRow, Cond.instanceMethod yX2_alongLastRow, Cond.selects RX2 yX2_alongLastRow yX2_alongLastRow, Cond.code yX2_alongLastRow cX2_alongLastRow 9 (some .long), Cond.methodLink RX2 39 yJ6_bitCount_0f7a4]
def wsX4_why : List Cond := .code yX4_why cX4_why 2 (some .int) :: ((wsX4_why_r1 ++ (wsX4_why_r2 ++ wsX4_why_r3)) ++ wsX40 ++ wsX30 ++ wsX20)
def wsX4_whole_r1 : List Cond := [Cond.fieldLink RX4 27 "ShunLots" "tables" "[LShunLots$Table;", Cond.fieldLink RX4 22 "ShunLots" "sets" "I", Cond.fieldLink RX4 58 "ShunLots" "square" "LShunLots$Square;", Cond.methodLink RX4 62 yX4_isPlace, Cond.static yX4_isPlace, Cond.initialized RX4, Cond.code yX4_isPlace cX4_isPlace 1 (some .boolean), Cond.methodLink RX4 69 yX4_isAmong, Cond.static yX4_isAmong, Cond.code yX4_isAmong cX4_isAmong 3 (some .boolean), Cond.methodLink RX4 83 yX3_worthOf, Cond.instanceMethod yX3_worthOf, Cond.selects RX3 yX3_worthOf yX3_worthOf, Cond.initialized RX3, Cond.code yX3_worthOf cX3_worthOf 6 (some .long), Cond.fieldLink RX3 7 "ShunLots$Table" "width" "I", Cond.methodLink RX3 17 yJ6_bitCount_0f7a4, Cond.static yJ6_bitCount_0f7a4, Cond.initialized RJ6, Cond.code yJ6_bitCount_0f7a4 cJ6_bitCount_0f7a4 1 (some .int), Cond.constant RJ6 265 (1431655765), Cond.constant RJ6 266 (858993459), Cond.constant RJ6 267 (252645135), Cond.methodLink RX3 23 yX2_begin]
def wsX4_whole_r2 : List Cond := [Cond.instanceMethod yX2_begin, Cond.selects RX2 yX2_begin yX2_begin, Cond.initialized RX2, Cond.code yX2_begin cX2_begin 3 none, Cond.methodLink RX2 18 Lib.Math.min.name, Cond.static Lib.Math.min.name, Cond.initialized "java/lang/Math", Cond.code Lib.Math.min.name Lib.Math.min.code 2 (some .int), Cond.methodLink RX2 24 Lib.Math.max.name, Cond.static Lib.Math.max.name, Cond.code Lib.Math.max.name Lib.Math.max.code 2 (some .int), Cond.fieldLink RX2 27 "ShunLots$Square" "side" "I", Cond.fieldLink RX2 9 "ShunLots$Square" "cells" "[J", Cond.static yX4_has, Cond.code yX4_has cX4_has 2 (some .boolean), Cond.methodLink RX3 35 yX3_layRow, Cond.instanceMethod yX3_layRow, Cond.selects RX3 yX3_layRow yX3_layRow, Cond.code yX3_layRow cX3_layRow 7 none, Cond.methodLink RX3 47 yX3_at, Cond.instanceMethod yX3_at, Cond.selects RX3 yX3_at yX3_at, Cond.code yX3_at cX3_at 3 (some .int), Cond.fieldLink RX3 13 "ShunLots$Table" "numbers" "[I"]
def wsX4_whole_r3 : List Cond := [Cond.methodLink RX3 39 yX2_add, Cond.instanceMethod yX2_add, Cond.selects RX2 yX2_add yX2_add, Cond.code yX2_add cX2_add 5 none, Cond.methodLink RX3 43 yX2_determinant, Cond.instanceMethod yX2_determinant, Cond.selects RX2 yX2_determinant yX2_determinant, Cond.code yX2_determinant cX2_determinant 3 (some .long), Cond.fieldLink RX2 15 "ShunLots$Square" "minors" "[J", Cond.methodLink RX2 35 yX2_alongLastRow, Cond.instanceMethod yX2_alongLastRow, Cond.selects RX2 yX2_alongLastRow yX2_alongLastRow, Cond.code yX2_alongLastRow cX2_alongLastRow 9 (some .long), Cond.methodLink RX2 39 yJ6_bitCount_0f7a4]
def wsX4_whole : List Cond := .code yX4_whole cX4_whole 2 (some .long) :: ((wsX4_whole_r1 ++ (wsX4_whole_r2 ++ wsX4_whole_r3)) ++ wsX40 ++ wsX30 ++ wsX20)
def wsX4_commonDivisor : List Cond := .code yX4_commonDivisor cX4_commonDivisor 11 (some .long) :: ([])
def wsX4_settle : List Cond := .code yX4_settle cX4_settle 5 (some .boolean) :: ([.fieldLink RX4 22 "ShunLots" "sets" "I", .fieldLink RX4 52 "ShunLots" "draft" "[J", .constantLong RX4 115 (4000000), .fieldLink RX4 33 "ShunLots" "laws" "[LShunLots$Law;", .methodLink RX4 186 yX4_commonDivisor, .static yX4_commonDivisor, .initialized RX4, .code yX4_commonDivisor cX4_commonDivisor 11 (some .long), .methodLink RX4 190 yX0_become, .instanceMethod yX0_become, .selects RX0 yX0_become yX0_become, .initialized RX0, .code yX0_become cX0_become 3 none, .fieldLink RX0 13 "ShunLots$Law" "sum" "J", .fieldLink RX0 7 "ShunLots$Law" "shares" "[J", .fieldLink RX0 17 "ShunLots$Law" "made" "Z"] ++ wsX40 ++ wsX00)
def wsX4_shun_r1 : List Cond := [Cond.fieldLink RX4 27 "ShunLots" "tables" "[LShunLots$Table;", Cond.methodLink RX4 62 yX4_isPlace, Cond.static yX4_isPlace, Cond.initialized RX4, Cond.code yX4_isPlace cX4_isPlace 1 (some .boolean), Cond.methodLink RX4 69 yX4_isAmong, Cond.static yX4_isAmong, Cond.code yX4_isAmong cX4_isAmong 3 (some .boolean), Cond.methodLink RX4 87 yX4_draftWorths, Cond.instanceMethod yX4_draftWorths, Cond.selects RX4 yX4_draftWorths yX4_draftWorths, Cond.code yX4_draftWorths cX4_draftWorths 3 (some .int), Cond.fieldLink RX4 22 "ShunLots" "sets" "I", Cond.fieldLink RX4 52 "ShunLots" "draft" "[J", Cond.fieldLink RX4 58 "ShunLots" "square" "LShunLots$Square;", Cond.methodLink RX4 83 yX3_worthOf, Cond.instanceMethod yX3_worthOf, Cond.selects RX3 yX3_worthOf yX3_worthOf, Cond.initialized RX3, Cond.code yX3_worthOf cX3_worthOf 6 (some .long), Cond.fieldLink RX3 7 "ShunLots$Table" "width" "I", Cond.methodLink RX3 17 yJ6_bitCount_0f7a4, Cond.static yJ6_bitCount_0f7a4, Cond.initialized RJ6]
def wsX4_shun_r2 : List Cond := [Cond.code yJ6_bitCount_0f7a4 cJ6_bitCount_0f7a4 1 (some .int), Cond.constant RJ6 265 (1431655765), Cond.constant RJ6 266 (858993459), Cond.constant RJ6 267 (252645135), Cond.methodLink RX3 23 yX2_begin, Cond.instanceMethod yX2_begin, Cond.selects RX2 yX2_begin yX2_begin, Cond.initialized RX2, Cond.code yX2_begin cX2_begin 3 none, Cond.methodLink RX2 18 Lib.Math.min.name, Cond.static Lib.Math.min.name, Cond.initialized "java/lang/Math", Cond.code Lib.Math.min.name Lib.Math.min.code 2 (some .int), Cond.methodLink RX2 24 Lib.Math.max.name, Cond.static Lib.Math.max.name, Cond.code Lib.Math.max.name Lib.Math.max.code 2 (some .int), Cond.fieldLink RX2 27 "ShunLots$Square" "side" "I", Cond.fieldLink RX2 9 "ShunLots$Square" "cells" "[J", Cond.static yX4_has, Cond.code yX4_has cX4_has 2 (some .boolean), Cond.methodLink RX3 35 yX3_layRow, Cond.instanceMethod yX3_layRow, Cond.selects RX3 yX3_layRow yX3_layRow, Cond.code yX3_layRow cX3_layRow 7 none]
def wsX4_shun_r3 : List Cond := [Cond.methodLink RX3 47 yX3_at, Cond.instanceMethod yX3_at, Cond.selects RX3 yX3_at yX3_at, Cond.code yX3_at cX3_at 3 (some .int), Cond.fieldLink RX3 13 "ShunLots$Table" "numbers" "[I", Cond.methodLink RX3 39 yX2_add, Cond.instanceMethod yX2_add, Cond.selects RX2 yX2_add yX2_add, Cond.code yX2_add cX2_add 5 none, Cond.methodLink RX3 43 yX2_determinant, Cond.instanceMethod yX2_determinant, Cond.selects RX2 yX2_determinant yX2_determinant, Cond.code yX2_determinant cX2_determinant 3 (some .long), Cond.fieldLink RX2 15 "ShunLots$Square" "minors" "[J", Cond.methodLink RX2 35 yX2_alongLastRow, Cond.instanceMethod yX2_alongLastRow, Cond.selects RX2 yX2_alongLastRow yX2_alongLastRow, Cond.code yX2_alongLastRow cX2_alongLastRow 9 (some .long), Cond.methodLink RX2 39 yJ6_bitCount_0f7a4, Cond.methodLink RX4 91 yX4_settle, Cond.instanceMethod yX4_settle, Cond.selects RX4 yX4_settle yX4_settle, Cond.code yX4_settle cX4_settle 5 (some .boolean), Cond.constantLong RX4 115 (4000000)]
def wsX4_shun_r4 : List Cond := [Cond.fieldLink RX4 33 "ShunLots" "laws" "[LShunLots$Law;", Cond.methodLink RX4 186 yX4_commonDivisor, Cond.static yX4_commonDivisor, Cond.code yX4_commonDivisor cX4_commonDivisor 11 (some .long), Cond.methodLink RX4 190 yX0_become, Cond.instanceMethod yX0_become, Cond.selects RX0 yX0_become yX0_become, Cond.initialized RX0, Cond.code yX0_become cX0_become 3 none, Cond.fieldLink RX0 13 "ShunLots$Law" "sum" "J", Cond.fieldLink RX0 7 "ShunLots$Law" "shares" "[J", Cond.fieldLink RX0 17 "ShunLots$Law" "made" "Z"]
def wsX4_shun : List Cond := .code yX4_shun cX4_shun 3 (some .boolean) :: ((wsX4_shun_r1 ++ (wsX4_shun_r2 ++ (wsX4_shun_r3 ++ wsX4_shun_r4))) ++ wsX40 ++ wsX30 ++ wsX20 ++ wsX00)
def wsX4_isPost : List Cond := .code yX4_isPost cX4_isPost 1 (some .boolean) :: ([.methodLink RX4 69 yX4_isAmong, .static yX4_isAmong, .initialized RX4, .code yX4_isAmong cX4_isAmong 3 (some .boolean)])
def wsX4_edge : List Cond := .code yX4_edge cX4_edge 5 (some .boolean) :: ([.fieldLink RX4 44 "ShunLots" "net" "LShunLots$Net;", .methodLink RX4 66 yX4_isThing, .instanceMethod yX4_isThing, .selects RX4 yX4_isThing yX4_isThing, .initialized RX4, .code yX4_isThing cX4_isThing 2 (some .boolean), .fieldLink RX4 18 "ShunLots" "things" "I", .methodLink RX4 69 yX4_isAmong, .static yX4_isAmong, .code yX4_isAmong cX4_isAmong 3 (some .boolean), .methodLink RX4 94 yX4_isPost, .static yX4_isPost, .code yX4_isPost cX4_isPost 1 (some .boolean), .methodLink RX4 97 yX1_put, .instanceMethod yX1_put, .selects RX1 yX1_put yX1_put, .initialized RX1, .code yX1_put cX1_put 5 none, .fieldLink RX1 13 "ShunLots$Net" "starts" "[I", .fieldLink RX1 17 "ShunLots$Net" "ends" "[I", .fieldLink RX1 20 "ShunLots$Net" "weights" "[I"] ++ wsX40 ++ wsX10)
def wsX4_isPosts : List Cond := .code yX4_isPosts cX4_isPosts 1 (some .boolean) :: ([.methodLink RX4 69 yX4_isAmong, .static yX4_isAmong, .initialized RX4, .code yX4_isAmong cX4_isAmong 3 (some .boolean)])
def wsX4_all_r1 : List Cond := [Cond.fieldLink RX4 44 "ShunLots" "net" "LShunLots$Net;", Cond.fieldLink RX4 58 "ShunLots" "square" "LShunLots$Square;", Cond.methodLink RX4 100 yX4_isPosts, Cond.static yX4_isPosts, Cond.initialized RX4, Cond.code yX4_isPosts cX4_isPosts 1 (some .boolean), Cond.methodLink RX4 69 yX4_isAmong, Cond.static yX4_isAmong, Cond.code yX4_isAmong cX4_isAmong 3 (some .boolean), Cond.methodLink RX4 103 yX1_sumOfTrees, Cond.instanceMethod yX1_sumOfTrees, Cond.selects RX1 yX1_sumOfTrees yX1_sumOfTrees, Cond.initialized RX1, Cond.code yX1_sumOfTrees cX1_sumOfTrees 4 (some .long), Cond.fieldLink RX1 7 "ShunLots$Net" "edges" "I", Cond.fieldLink RX1 13 "ShunLots$Net" "starts" "[I", Cond.fieldLink RX1 17 "ShunLots$Net" "ends" "[I", Cond.fieldLink RX1 20 "ShunLots$Net" "weights" "[I", Cond.methodLink RX1 23 yX2_begin, Cond.instanceMethod yX2_begin, Cond.selects RX2 yX2_begin yX2_begin, Cond.initialized RX2, Cond.code yX2_begin cX2_begin 3 none, Cond.methodLink RX2 18 Lib.Math.min.name]
def wsX4_all_r2 : List Cond := [Cond.static Lib.Math.min.name, Cond.initialized "java/lang/Math", Cond.code Lib.Math.min.name Lib.Math.min.code 2 (some .int), Cond.methodLink RX2 24 Lib.Math.max.name, Cond.static Lib.Math.max.name, Cond.code Lib.Math.max.name Lib.Math.max.code 2 (some .int), Cond.fieldLink RX2 27 "ShunLots$Square" "side" "I", Cond.fieldLink RX2 9 "ShunLots$Square" "cells" "[J", Cond.methodLink RX1 29 yX2_add, Cond.instanceMethod yX2_add, Cond.selects RX2 yX2_add yX2_add, Cond.code yX2_add cX2_add 5 none, Cond.methodLink RX1 33 yX2_determinant, Cond.instanceMethod yX2_determinant, Cond.selects RX2 yX2_determinant yX2_determinant, Cond.code yX2_determinant cX2_determinant 3 (some .long), Cond.fieldLink RX2 15 "ShunLots$Square" "minors" "[J", Cond.methodLink RX2 35 yX2_alongLastRow, Cond.instanceMethod yX2_alongLastRow, Cond.selects RX2 yX2_alongLastRow yX2_alongLastRow, Cond.code yX2_alongLastRow cX2_alongLastRow 9 (some .long), Cond.methodLink RX2 39 yJ6_bitCount_0f7a4, Cond.static yJ6_bitCount_0f7a4, Cond.initialized RJ6]
def wsX4_all_r3 : List Cond := [Cond.code yJ6_bitCount_0f7a4 cJ6_bitCount_0f7a4 1 (some .int), Cond.constant RJ6 265 (1431655765), Cond.constant RJ6 266 (858993459), Cond.constant RJ6 267 (252645135)]
def wsX4_all : List Cond := .code yX4_all cX4_all 2 (some .long) :: ((wsX4_all_r1 ++ (wsX4_all_r2 ++ wsX4_all_r3)) ++ wsX40 ++ wsX10 ++ wsX20)
def wsX4_trees_r1 : List Cond := [Cond.fieldLink RX4 22 "ShunLots" "sets" "I", Cond.fieldLink RX4 52 "ShunLots" "draft" "[J", Cond.fieldLink RX4 44 "ShunLots" "net" "LShunLots$Net;", Cond.methodLink RX4 100 yX4_isPosts, Cond.static yX4_isPosts, Cond.initialized RX4, Cond.code yX4_isPosts cX4_isPosts 1 (some .boolean), Cond.methodLink RX4 69 yX4_isAmong, Cond.static yX4_isAmong, Cond.code yX4_isAmong cX4_isAmong 3 (some .boolean), Cond.methodLink RX4 62 yX4_isPlace, Cond.static yX4_isPlace, Cond.code yX4_isPlace cX4_isPlace 1 (some .boolean), Cond.methodLink RX4 107 yX1_isTree, Cond.instanceMethod yX1_isTree, Cond.selects RX1 yX1_isTree yX1_isTree, Cond.initialized RX1, Cond.code yX1_isTree cX1_isTree 5 (some .boolean), Cond.methodLink RX1 37 yJ6_bitCount_0f7a4, Cond.static yJ6_bitCount_0f7a4, Cond.initialized RJ6, Cond.code yJ6_bitCount_0f7a4 cJ6_bitCount_0f7a4 1 (some .int), Cond.constant RJ6 265 (1431655765), Cond.constant RJ6 266 (858993459)]
def wsX4_trees_r2 : List Cond := [Cond.constant RJ6 267 (252645135), Cond.methodLink RX1 43 yX1_joinedOnce, Cond.instanceMethod yX1_joinedOnce, Cond.selects RX1 yX1_joinedOnce yX1_joinedOnce, Cond.code yX1_joinedOnce cX1_joinedOnce 6 (some .int), Cond.fieldLink RX1 7 "ShunLots$Net" "edges" "I", Cond.fieldLink RX1 13 "ShunLots$Net" "starts" "[I", Cond.fieldLink RX1 17 "ShunLots$Net" "ends" "[I", Cond.static yX4_has, Cond.code yX4_has cX4_has 2 (some .boolean), Cond.methodLink RX4 111 yX1_productOf, Cond.instanceMethod yX1_productOf, Cond.selects RX1 yX1_productOf yX1_productOf, Cond.code yX1_productOf cX1_productOf 5 (some .long), Cond.fieldLink RX1 20 "ShunLots$Net" "weights" "[I", Cond.methodLink RX4 91 yX4_settle, Cond.instanceMethod yX4_settle, Cond.selects RX4 yX4_settle yX4_settle, Cond.code yX4_settle cX4_settle 5 (some .boolean), Cond.constantLong RX4 115 (4000000), Cond.fieldLink RX4 33 "ShunLots" "laws" "[LShunLots$Law;", Cond.methodLink RX4 186 yX4_commonDivisor, Cond.static yX4_commonDivisor, Cond.code yX4_commonDivisor cX4_commonDivisor 11 (some .long)]
def wsX4_trees_r3 : List Cond := [Cond.methodLink RX4 190 yX0_become, Cond.instanceMethod yX0_become, Cond.selects RX0 yX0_become yX0_become, Cond.initialized RX0, Cond.code yX0_become cX0_become 3 none, Cond.fieldLink RX0 13 "ShunLots$Law" "sum" "J", Cond.fieldLink RX0 7 "ShunLots$Law" "shares" "[J", Cond.fieldLink RX0 17 "ShunLots$Law" "made" "Z"]
def wsX4_trees : List Cond := .code yX4_trees cX4_trees 4 (some .boolean) :: ((wsX4_trees_r1 ++ (wsX4_trees_r2 ++ wsX4_trees_r3)) ++ wsX40 ++ wsX10 ++ wsX00)
def wsX4_tell : List Cond := .code yX4_tell cX4_tell 3 (some .boolean) :: ([.constantLong RX4 115 (4000000), .fieldLink RX4 48 "ShunLots" "handShares" "[J", .methodLink RX4 80 yX4_isSet, .instanceMethod yX4_isSet, .selects RX4 yX4_isSet yX4_isSet, .initialized RX4, .code yX4_isSet cX4_isSet 2 (some .boolean), .fieldLink RX4 22 "ShunLots" "sets" "I", .methodLink RX4 69 yX4_isAmong, .static yX4_isAmong, .code yX4_isAmong cX4_isAmong 3 (some .boolean)] ++ wsX40)
def wsX4_hand_r1 : List Cond := [Cond.fieldLink RX4 48 "ShunLots" "handShares" "[J", Cond.fieldLink RX4 52 "ShunLots" "draft" "[J", Cond.fieldLink RX4 22 "ShunLots" "sets" "I", Cond.methodLink RX4 117 arraycopyName, Cond.native arraycopyName, Cond.static arraycopyName, Cond.initialized "java/lang/System", Cond.methodLink RX4 62 yX4_isPlace, Cond.static yX4_isPlace, Cond.initialized RX4, Cond.code yX4_isPlace cX4_isPlace 1 (some .boolean), Cond.methodLink RX4 69 yX4_isAmong, Cond.static yX4_isAmong, Cond.code yX4_isAmong cX4_isAmong 3 (some .boolean), Cond.methodLink RX4 91 yX4_settle, Cond.instanceMethod yX4_settle, Cond.selects RX4 yX4_settle yX4_settle, Cond.code yX4_settle cX4_settle 5 (some .boolean), Cond.constantLong RX4 115 (4000000), Cond.fieldLink RX4 33 "ShunLots" "laws" "[LShunLots$Law;", Cond.methodLink RX4 186 yX4_commonDivisor, Cond.static yX4_commonDivisor, Cond.code yX4_commonDivisor cX4_commonDivisor 11 (some .long), Cond.methodLink RX4 190 yX0_become]
def wsX4_hand_r2 : List Cond := [Cond.instanceMethod yX0_become, Cond.selects RX0 yX0_become yX0_become, Cond.initialized RX0, Cond.code yX0_become cX0_become 3 none, Cond.fieldLink RX0 13 "ShunLots$Law" "sum" "J", Cond.fieldLink RX0 7 "ShunLots$Law" "shares" "[J", Cond.fieldLink RX0 17 "ShunLots$Law" "made" "Z"]
def wsX4_hand : List Cond := .code yX4_hand cX4_hand 2 (some .boolean) :: ((wsX4_hand_r1 ++ wsX4_hand_r2) ++ wsX40 ++ wsX00)
def wsX4_lawAt : List Cond := .code yX4_lawAt cX4_lawAt 2 (some (.object "ShunLots$Law")) :: ([.fieldLink RX4 33 "ShunLots" "laws" "[LShunLots$Law;", .fieldLink RX4 180 "ShunLots$Law" "made" "Z", .methodLink RX4 62 yX4_isPlace, .static yX4_isPlace, .initialized RX4, .code yX4_isPlace cX4_isPlace 1 (some .boolean), .methodLink RX4 69 yX4_isAmong, .static yX4_isAmong, .code yX4_isAmong cX4_isAmong 3 (some .boolean)] ++ wsX40 ++ wsX00)
def wsX4_given_r1 : List Cond := [Cond.fieldLink RX4 22 "ShunLots" "sets" "I", Cond.fieldLink RX4 52 "ShunLots" "draft" "[J", Cond.fieldLink RX4 130 "ShunLots$Law" "shares" "[J", Cond.methodLink RX4 123 yX4_lawAt, Cond.instanceMethod yX4_lawAt, Cond.selects RX4 yX4_lawAt yX4_lawAt, Cond.initialized RX4, Cond.code yX4_lawAt cX4_lawAt 2 (some (.object "ShunLots$Law")), Cond.fieldLink RX4 33 "ShunLots" "laws" "[LShunLots$Law;", Cond.fieldLink RX4 180 "ShunLots$Law" "made" "Z", Cond.methodLink RX4 62 yX4_isPlace, Cond.static yX4_isPlace, Cond.code yX4_isPlace cX4_isPlace 1 (some .boolean), Cond.methodLink RX4 69 yX4_isAmong, Cond.static yX4_isAmong, Cond.code yX4_isAmong cX4_isAmong 3 (some .boolean), Cond.methodLink RX4 80 yX4_isSet, Cond.instanceMethod yX4_isSet, Cond.selects RX4 yX4_isSet yX4_isSet, Cond.code yX4_isSet cX4_isSet 2 (some .boolean), Cond.methodLink RX4 127 yX4_fits, Cond.static yX4_fits, Cond.code yX4_fits cX4_fits 3 (some .boolean), Cond.methodLink RX4 91 yX4_settle]
def wsX4_given_r2 : List Cond := [Cond.instanceMethod yX4_settle, Cond.selects RX4 yX4_settle yX4_settle, Cond.code yX4_settle cX4_settle 5 (some .boolean), Cond.constantLong RX4 115 (4000000), Cond.methodLink RX4 186 yX4_commonDivisor, Cond.static yX4_commonDivisor, Cond.code yX4_commonDivisor cX4_commonDivisor 11 (some .long), Cond.methodLink RX4 190 yX0_become, Cond.instanceMethod yX0_become, Cond.selects RX0 yX0_become yX0_become, Cond.initialized RX0, Cond.code yX0_become cX0_become 3 none, Cond.fieldLink RX0 13 "ShunLots$Law" "sum" "J", Cond.fieldLink RX0 7 "ShunLots$Law" "shares" "[J", Cond.fieldLink RX0 17 "ShunLots$Law" "made" "Z"]
def wsX4_given : List Cond := .code yX4_given cX4_given 7 (some .boolean) :: ((wsX4_given_r1 ++ wsX4_given_r2) ++ wsX40 ++ wsX00)
def wsX4_halveDraft : List Cond := .code yX4_halveDraft cX4_halveDraft 3 none :: ([.fieldLink RX4 22 "ShunLots" "sets" "I", .fieldLink RX4 52 "ShunLots" "draft" "[J", .constantLong RX4 184 (2)] ++ wsX40)
def wsX4_thin_r1 : List Cond := [Cond.fieldLink RX4 130 "ShunLots$Law" "shares" "[J", Cond.fieldLink RX4 52 "ShunLots" "draft" "[J", Cond.fieldLink RX4 22 "ShunLots" "sets" "I", Cond.methodLink RX4 117 arraycopyName, Cond.native arraycopyName, Cond.static arraycopyName, Cond.initialized "java/lang/System", Cond.fieldLink RX4 18 "ShunLots" "things" "I", Cond.methodLink RX4 123 yX4_lawAt, Cond.instanceMethod yX4_lawAt, Cond.selects RX4 yX4_lawAt yX4_lawAt, Cond.initialized RX4, Cond.code yX4_lawAt cX4_lawAt 2 (some (.object "ShunLots$Law")), Cond.fieldLink RX4 33 "ShunLots" "laws" "[LShunLots$Law;", Cond.fieldLink RX4 180 "ShunLots$Law" "made" "Z", Cond.methodLink RX4 62 yX4_isPlace, Cond.static yX4_isPlace, Cond.code yX4_isPlace cX4_isPlace 1 (some .boolean), Cond.methodLink RX4 69 yX4_isAmong, Cond.static yX4_isAmong, Cond.code yX4_isAmong cX4_isAmong 3 (some .boolean), Cond.methodLink RX4 80 yX4_isSet, Cond.instanceMethod yX4_isSet, Cond.selects RX4 yX4_isSet yX4_isSet]
def wsX4_thin_r2 : List Cond := [Cond.code yX4_isSet cX4_isSet 2 (some .boolean), Cond.methodLink RX4 133 yX4_has, Cond.static yX4_has, Cond.code yX4_has cX4_has 2 (some .boolean), Cond.methodLink RX4 136 yX4_halveDraft, Cond.instanceMethod yX4_halveDraft, Cond.selects RX4 yX4_halveDraft yX4_halveDraft, Cond.code yX4_halveDraft cX4_halveDraft 3 none, Cond.constantLong RX4 184 (2), Cond.methodLink RX4 91 yX4_settle, Cond.instanceMethod yX4_settle, Cond.selects RX4 yX4_settle yX4_settle, Cond.code yX4_settle cX4_settle 5 (some .boolean), Cond.constantLong RX4 115 (4000000), Cond.methodLink RX4 186 yX4_commonDivisor, Cond.static yX4_commonDivisor, Cond.code yX4_commonDivisor cX4_commonDivisor 11 (some .long), Cond.methodLink RX4 190 yX0_become, Cond.instanceMethod yX0_become, Cond.selects RX0 yX0_become yX0_become, Cond.initialized RX0, Cond.code yX0_become cX0_become 3 none, Cond.fieldLink RX0 13 "ShunLots$Law" "sum" "J", Cond.fieldLink RX0 7 "ShunLots$Law" "shares" "[J"]
def wsX4_thin_r3 : List Cond := [Cond.fieldLink RX0 17 "ShunLots$Law" "made" "Z"]
def wsX4_thin : List Cond := .code yX4_thin cX4_thin 6 (some .boolean) :: ((wsX4_thin_r1 ++ (wsX4_thin_r2 ++ wsX4_thin_r3)) ++ wsX00 ++ wsX40)
def wsX4_part_r1 : List Cond := [Cond.fieldLink RX4 22 "ShunLots" "sets" "I", Cond.fieldLink RX4 52 "ShunLots" "draft" "[J", Cond.fieldLink RX4 130 "ShunLots$Law" "shares" "[J", Cond.methodLink RX4 123 yX4_lawAt, Cond.instanceMethod yX4_lawAt, Cond.selects RX4 yX4_lawAt yX4_lawAt, Cond.initialized RX4, Cond.code yX4_lawAt cX4_lawAt 2 (some (.object "ShunLots$Law")), Cond.fieldLink RX4 33 "ShunLots" "laws" "[LShunLots$Law;", Cond.fieldLink RX4 180 "ShunLots$Law" "made" "Z", Cond.methodLink RX4 62 yX4_isPlace, Cond.static yX4_isPlace, Cond.code yX4_isPlace cX4_isPlace 1 (some .boolean), Cond.methodLink RX4 69 yX4_isAmong, Cond.static yX4_isAmong, Cond.code yX4_isAmong cX4_isAmong 3 (some .boolean), Cond.methodLink RX4 80 yX4_isSet, Cond.instanceMethod yX4_isSet, Cond.selects RX4 yX4_isSet yX4_isSet, Cond.code yX4_isSet cX4_isSet 2 (some .boolean), Cond.methodLink RX4 91 yX4_settle, Cond.instanceMethod yX4_settle, Cond.selects RX4 yX4_settle yX4_settle, Cond.code yX4_settle cX4_settle 5 (some .boolean)]
def wsX4_part_r2 : List Cond := [Cond.constantLong RX4 115 (4000000), Cond.methodLink RX4 186 yX4_commonDivisor, Cond.static yX4_commonDivisor, Cond.code yX4_commonDivisor cX4_commonDivisor 11 (some .long), Cond.methodLink RX4 190 yX0_become, Cond.instanceMethod yX0_become, Cond.selects RX0 yX0_become yX0_become, Cond.initialized RX0, Cond.code yX0_become cX0_become 3 none, Cond.fieldLink RX0 13 "ShunLots$Law" "sum" "J", Cond.fieldLink RX0 7 "ShunLots$Law" "shares" "[J", Cond.fieldLink RX0 17 "ShunLots$Law" "made" "Z"]
def wsX4_part : List Cond := .code yX4_part cX4_part 6 (some .boolean) :: ((wsX4_part_r1 ++ wsX4_part_r2) ++ wsX40 ++ wsX00)
def wsX4_other_r1 : List Cond := [Cond.fieldLink RX4 22 "ShunLots" "sets" "I", Cond.fieldLink RX4 52 "ShunLots" "draft" "[J", Cond.fieldLink RX4 130 "ShunLots$Law" "shares" "[J", Cond.methodLink RX4 123 yX4_lawAt, Cond.instanceMethod yX4_lawAt, Cond.selects RX4 yX4_lawAt yX4_lawAt, Cond.initialized RX4, Cond.code yX4_lawAt cX4_lawAt 2 (some (.object "ShunLots$Law")), Cond.fieldLink RX4 33 "ShunLots" "laws" "[LShunLots$Law;", Cond.fieldLink RX4 180 "ShunLots$Law" "made" "Z", Cond.methodLink RX4 62 yX4_isPlace, Cond.static yX4_isPlace, Cond.code yX4_isPlace cX4_isPlace 1 (some .boolean), Cond.methodLink RX4 69 yX4_isAmong, Cond.static yX4_isAmong, Cond.code yX4_isAmong cX4_isAmong 3 (some .boolean), Cond.methodLink RX4 80 yX4_isSet, Cond.instanceMethod yX4_isSet, Cond.selects RX4 yX4_isSet yX4_isSet, Cond.code yX4_isSet cX4_isSet 2 (some .boolean), Cond.methodLink RX4 91 yX4_settle, Cond.instanceMethod yX4_settle, Cond.selects RX4 yX4_settle yX4_settle, Cond.code yX4_settle cX4_settle 5 (some .boolean)]
def wsX4_other_r2 : List Cond := [Cond.constantLong RX4 115 (4000000), Cond.methodLink RX4 186 yX4_commonDivisor, Cond.static yX4_commonDivisor, Cond.code yX4_commonDivisor cX4_commonDivisor 11 (some .long), Cond.methodLink RX4 190 yX0_become, Cond.instanceMethod yX0_become, Cond.selects RX0 yX0_become yX0_become, Cond.initialized RX0, Cond.code yX0_become cX0_become 3 none, Cond.fieldLink RX0 13 "ShunLots$Law" "sum" "J", Cond.fieldLink RX0 7 "ShunLots$Law" "shares" "[J", Cond.fieldLink RX0 17 "ShunLots$Law" "made" "Z"]
def wsX4_other : List Cond := .code yX4_other cX4_other 6 (some .boolean) :: ((wsX4_other_r1 ++ wsX4_other_r2) ++ wsX40 ++ wsX00)
def wsX4_mix_r1 : List Cond := [Cond.fieldLink RX4 139 "ShunLots$Law" "sum" "J", Cond.fieldLink RX4 22 "ShunLots" "sets" "I", Cond.fieldLink RX4 52 "ShunLots" "draft" "[J", Cond.fieldLink RX4 130 "ShunLots$Law" "shares" "[J", Cond.methodLink RX4 123 yX4_lawAt, Cond.instanceMethod yX4_lawAt, Cond.selects RX4 yX4_lawAt yX4_lawAt, Cond.initialized RX4, Cond.code yX4_lawAt cX4_lawAt 2 (some (.object "ShunLots$Law")), Cond.fieldLink RX4 33 "ShunLots" "laws" "[LShunLots$Law;", Cond.fieldLink RX4 180 "ShunLots$Law" "made" "Z", Cond.methodLink RX4 62 yX4_isPlace, Cond.static yX4_isPlace, Cond.code yX4_isPlace cX4_isPlace 1 (some .boolean), Cond.methodLink RX4 69 yX4_isAmong, Cond.static yX4_isAmong, Cond.code yX4_isAmong cX4_isAmong 3 (some .boolean), Cond.methodLink RX4 91 yX4_settle, Cond.instanceMethod yX4_settle, Cond.selects RX4 yX4_settle yX4_settle, Cond.code yX4_settle cX4_settle 5 (some .boolean), Cond.constantLong RX4 115 (4000000), Cond.methodLink RX4 186 yX4_commonDivisor, Cond.static yX4_commonDivisor]
def wsX4_mix_r2 : List Cond := [Cond.code yX4_commonDivisor cX4_commonDivisor 11 (some .long), Cond.methodLink RX4 190 yX0_become, Cond.instanceMethod yX0_become, Cond.selects RX0 yX0_become yX0_become, Cond.initialized RX0, Cond.code yX0_become cX0_become 3 none, Cond.fieldLink RX0 13 "ShunLots$Law" "sum" "J", Cond.fieldLink RX0 7 "ShunLots$Law" "shares" "[J", Cond.fieldLink RX0 17 "ShunLots$Law" "made" "Z"]
def wsX4_mix : List Cond := .code yX4_mix cX4_mix 13 (some .boolean) :: ((wsX4_mix_r1 ++ wsX4_mix_r2) ++ wsX00 ++ wsX40)
def wsX4_share : List Cond := .code yX4_share cX4_share 4 (some .long) :: ([.constantLong RX4 143 (-1), .fieldLink RX4 130 "ShunLots$Law" "shares" "[J", .methodLink RX4 123 yX4_lawAt, .instanceMethod yX4_lawAt, .selects RX4 yX4_lawAt yX4_lawAt, .initialized RX4, .code yX4_lawAt cX4_lawAt 2 (some (.object "ShunLots$Law")), .fieldLink RX4 33 "ShunLots" "laws" "[LShunLots$Law;", .fieldLink RX4 180 "ShunLots$Law" "made" "Z", .methodLink RX4 62 yX4_isPlace, .static yX4_isPlace, .code yX4_isPlace cX4_isPlace 1 (some .boolean), .methodLink RX4 69 yX4_isAmong, .static yX4_isAmong, .code yX4_isAmong cX4_isAmong 3 (some .boolean), .methodLink RX4 80 yX4_isSet, .instanceMethod yX4_isSet, .selects RX4 yX4_isSet yX4_isSet, .code yX4_isSet cX4_isSet 2 (some .boolean), .fieldLink RX4 22 "ShunLots" "sets" "I"] ++ wsX00 ++ wsX40)
def wsX4_isWhat : List Cond := .code yX4_isWhat cX4_isWhat 1 (some .boolean) :: ([.methodLink RX4 69 yX4_isAmong, .static yX4_isAmong, .initialized RX4, .code yX4_isAmong cX4_isAmong 3 (some .boolean)])
def wsX4_lowest : List Cond := .code yX4_lowest cX4_lowest 7 (some .long) :: ([.methodLink RX4 194 Lib.MathLoose.abs_long.x, .static Lib.MathLoose.abs_long.x, .initialized "java/lang/Math", .code Lib.MathLoose.abs_long.x Lib.MathLoose.abs_long.code 2 (some .long), .constantLong RX4 143 (-1), .methodLink RX4 186 yX4_commonDivisor, .static yX4_commonDivisor, .initialized RX4, .code yX4_commonDivisor cX4_commonDivisor 11 (some .long)])
def wsX4_chance_r1 : List Cond := [Cond.constantLong RX4 143 (-1), Cond.fieldLink RX4 130 "ShunLots$Law" "shares" "[J", Cond.fieldLink RX4 139 "ShunLots$Law" "sum" "J", Cond.methodLink RX4 123 yX4_lawAt, Cond.instanceMethod yX4_lawAt, Cond.selects RX4 yX4_lawAt yX4_lawAt, Cond.initialized RX4, Cond.code yX4_lawAt cX4_lawAt 2 (some (.object "ShunLots$Law")), Cond.fieldLink RX4 33 "ShunLots" "laws" "[LShunLots$Law;", Cond.fieldLink RX4 180 "ShunLots$Law" "made" "Z", Cond.methodLink RX4 62 yX4_isPlace, Cond.static yX4_isPlace, Cond.code yX4_isPlace cX4_isPlace 1 (some .boolean), Cond.methodLink RX4 69 yX4_isAmong, Cond.static yX4_isAmong, Cond.code yX4_isAmong cX4_isAmong 3 (some .boolean), Cond.methodLink RX4 80 yX4_isSet, Cond.instanceMethod yX4_isSet, Cond.selects RX4 yX4_isSet yX4_isSet, Cond.code yX4_isSet cX4_isSet 2 (some .boolean), Cond.fieldLink RX4 22 "ShunLots" "sets" "I", Cond.methodLink RX4 145 yX4_isWhat, Cond.static yX4_isWhat, Cond.code yX4_isWhat cX4_isWhat 1 (some .boolean)]
def wsX4_chance_r2 : List Cond := [Cond.methodLink RX4 148 yX4_lowest, Cond.static yX4_lowest, Cond.code yX4_lowest cX4_lowest 7 (some .long), Cond.methodLink RX4 194 Lib.MathLoose.abs_long.x, Cond.static Lib.MathLoose.abs_long.x, Cond.initialized "java/lang/Math", Cond.code Lib.MathLoose.abs_long.x Lib.MathLoose.abs_long.code 2 (some .long), Cond.methodLink RX4 186 yX4_commonDivisor, Cond.static yX4_commonDivisor, Cond.code yX4_commonDivisor cX4_commonDivisor 11 (some .long)]
def wsX4_chance : List Cond := .code yX4_chance cX4_chance 5 (some .long) :: ((wsX4_chance_r1 ++ wsX4_chance_r2) ++ wsX00 ++ wsX40)
def wsX4_within_r1 : List Cond := [Cond.constantLong RX4 143 (-1), Cond.fieldLink RX4 139 "ShunLots$Law" "sum" "J", Cond.methodLink RX4 123 yX4_lawAt, Cond.instanceMethod yX4_lawAt, Cond.selects RX4 yX4_lawAt yX4_lawAt, Cond.initialized RX4, Cond.code yX4_lawAt cX4_lawAt 2 (some (.object "ShunLots$Law")), Cond.fieldLink RX4 33 "ShunLots" "laws" "[LShunLots$Law;", Cond.fieldLink RX4 180 "ShunLots$Law" "made" "Z", Cond.methodLink RX4 62 yX4_isPlace, Cond.static yX4_isPlace, Cond.code yX4_isPlace cX4_isPlace 1 (some .boolean), Cond.methodLink RX4 69 yX4_isAmong, Cond.static yX4_isAmong, Cond.code yX4_isAmong cX4_isAmong 3 (some .boolean), Cond.methodLink RX4 80 yX4_isSet, Cond.instanceMethod yX4_isSet, Cond.selects RX4 yX4_isSet yX4_isSet, Cond.code yX4_isSet cX4_isSet 2 (some .boolean), Cond.fieldLink RX4 22 "ShunLots" "sets" "I", Cond.methodLink RX4 145 yX4_isWhat, Cond.static yX4_isWhat, Cond.code yX4_isWhat cX4_isWhat 1 (some .boolean), Cond.methodLink RX4 152 yX0_sumFitting]
def wsX4_within_r2 : List Cond := [Cond.instanceMethod yX0_sumFitting, Cond.selects RX0 yX0_sumFitting yX0_sumFitting, Cond.initialized RX0, Cond.code yX0_sumFitting cX0_sumFitting 6 (some .long), Cond.fieldLink RX0 7 "ShunLots$Law" "shares" "[J", Cond.static yX4_fits, Cond.code yX4_fits cX4_fits 3 (some .boolean), Cond.methodLink RX4 148 yX4_lowest, Cond.static yX4_lowest, Cond.code yX4_lowest cX4_lowest 7 (some .long), Cond.methodLink RX4 194 Lib.MathLoose.abs_long.x, Cond.static Lib.MathLoose.abs_long.x, Cond.initialized "java/lang/Math", Cond.code Lib.MathLoose.abs_long.x Lib.MathLoose.abs_long.code 2 (some .long), Cond.methodLink RX4 186 yX4_commonDivisor, Cond.static yX4_commonDivisor, Cond.code yX4_commonDivisor cX4_commonDivisor 11 (some .long)]
def wsX4_within : List Cond := .code yX4_within cX4_within 5 (some .long) :: ((wsX4_within_r1 ++ wsX4_within_r2) ++ wsX00 ++ wsX40)
def wsX4_out_r1 : List Cond := [Cond.constantLong RX4 143 (-1), Cond.fieldLink RX4 139 "ShunLots$Law" "sum" "J", Cond.methodLink RX4 123 yX4_lawAt, Cond.instanceMethod yX4_lawAt, Cond.selects RX4 yX4_lawAt yX4_lawAt, Cond.initialized RX4, Cond.code yX4_lawAt cX4_lawAt 2 (some (.object "ShunLots$Law")), Cond.fieldLink RX4 33 "ShunLots" "laws" "[LShunLots$Law;", Cond.fieldLink RX4 180 "ShunLots$Law" "made" "Z", Cond.methodLink RX4 62 yX4_isPlace, Cond.static yX4_isPlace, Cond.code yX4_isPlace cX4_isPlace 1 (some .boolean), Cond.methodLink RX4 69 yX4_isAmong, Cond.static yX4_isAmong, Cond.code yX4_isAmong cX4_isAmong 3 (some .boolean), Cond.methodLink RX4 80 yX4_isSet, Cond.instanceMethod yX4_isSet, Cond.selects RX4 yX4_isSet yX4_isSet, Cond.code yX4_isSet cX4_isSet 2 (some .boolean), Cond.fieldLink RX4 22 "ShunLots" "sets" "I", Cond.methodLink RX4 145 yX4_isWhat, Cond.static yX4_isWhat, Cond.code yX4_isWhat cX4_isWhat 1 (some .boolean), Cond.methodLink RX4 152 yX0_sumFitting]
def wsX4_out_r2 : List Cond := [Cond.instanceMethod yX0_sumFitting, Cond.selects RX0 yX0_sumFitting yX0_sumFitting, Cond.initialized RX0, Cond.code yX0_sumFitting cX0_sumFitting 6 (some .long), Cond.fieldLink RX0 7 "ShunLots$Law" "shares" "[J", Cond.static yX4_fits, Cond.code yX4_fits cX4_fits 3 (some .boolean), Cond.methodLink RX4 148 yX4_lowest, Cond.static yX4_lowest, Cond.code yX4_lowest cX4_lowest 7 (some .long), Cond.methodLink RX4 194 Lib.MathLoose.abs_long.x, Cond.static Lib.MathLoose.abs_long.x, Cond.initialized "java/lang/Math", Cond.code Lib.MathLoose.abs_long.x Lib.MathLoose.abs_long.code 2 (some .long), Cond.methodLink RX4 186 yX4_commonDivisor, Cond.static yX4_commonDivisor, Cond.code yX4_commonDivisor cX4_commonDivisor 11 (some .long)]
def wsX4_out : List Cond := .code yX4_out cX4_out 5 (some .long) :: ((wsX4_out_r1 ++ wsX4_out_r2) ++ wsX00 ++ wsX40)
def wsX4_isCount : List Cond := .code yX4_isCount cX4_isCount 2 (some .boolean) :: ([.fieldLink RX4 18 "ShunLots" "things" "I", .methodLink RX4 69 yX4_isAmong, .static yX4_isAmong, .initialized RX4, .code yX4_isAmong cX4_isAmong 3 (some .boolean)] ++ wsX40)
def wsX4_size_r1 : List Cond := [Cond.constantLong RX4 143 (-1), Cond.fieldLink RX4 139 "ShunLots$Law" "sum" "J", Cond.methodLink RX4 123 yX4_lawAt, Cond.instanceMethod yX4_lawAt, Cond.selects RX4 yX4_lawAt yX4_lawAt, Cond.initialized RX4, Cond.code yX4_lawAt cX4_lawAt 2 (some (.object "ShunLots$Law")), Cond.fieldLink RX4 33 "ShunLots" "laws" "[LShunLots$Law;", Cond.fieldLink RX4 180 "ShunLots$Law" "made" "Z", Cond.methodLink RX4 62 yX4_isPlace, Cond.static yX4_isPlace, Cond.code yX4_isPlace cX4_isPlace 1 (some .boolean), Cond.methodLink RX4 69 yX4_isAmong, Cond.static yX4_isAmong, Cond.code yX4_isAmong cX4_isAmong 3 (some .boolean), Cond.methodLink RX4 156 yX4_isCount, Cond.instanceMethod yX4_isCount, Cond.selects RX4 yX4_isCount yX4_isCount, Cond.code yX4_isCount cX4_isCount 2 (some .boolean), Cond.fieldLink RX4 18 "ShunLots" "things" "I", Cond.methodLink RX4 145 yX4_isWhat, Cond.static yX4_isWhat, Cond.code yX4_isWhat cX4_isWhat 1 (some .boolean), Cond.methodLink RX4 159 yX0_sumOfSize]
def wsX4_size_r2 : List Cond := [Cond.instanceMethod yX0_sumOfSize, Cond.selects RX0 yX0_sumOfSize yX0_sumOfSize, Cond.initialized RX0, Cond.code yX0_sumOfSize cX0_sumOfSize 5 (some .long), Cond.fieldLink RX0 7 "ShunLots$Law" "shares" "[J", Cond.methodLink RX0 27 yJ6_bitCount_0f7a4, Cond.static yJ6_bitCount_0f7a4, Cond.initialized RJ6, Cond.code yJ6_bitCount_0f7a4 cJ6_bitCount_0f7a4 1 (some .int), Cond.constant RJ6 265 (1431655765), Cond.constant RJ6 266 (858993459), Cond.constant RJ6 267 (252645135), Cond.methodLink RX4 148 yX4_lowest, Cond.static yX4_lowest, Cond.code yX4_lowest cX4_lowest 7 (some .long), Cond.methodLink RX4 194 Lib.MathLoose.abs_long.x, Cond.static Lib.MathLoose.abs_long.x, Cond.initialized "java/lang/Math", Cond.code Lib.MathLoose.abs_long.x Lib.MathLoose.abs_long.code 2 (some .long), Cond.methodLink RX4 186 yX4_commonDivisor, Cond.static yX4_commonDivisor, Cond.code yX4_commonDivisor cX4_commonDivisor 11 (some .long)]
def wsX4_size : List Cond := .code yX4_size cX4_size 5 (some .long) :: ((wsX4_size_r1 ++ wsX4_size_r2) ++ wsX00 ++ wsX40)
def wsX4_mean_r1 : List Cond := [Cond.constantLong RX4 143 (-1), Cond.fieldLink RX4 139 "ShunLots$Law" "sum" "J", Cond.methodLink RX4 123 yX4_lawAt, Cond.instanceMethod yX4_lawAt, Cond.selects RX4 yX4_lawAt yX4_lawAt, Cond.initialized RX4, Cond.code yX4_lawAt cX4_lawAt 2 (some (.object "ShunLots$Law")), Cond.fieldLink RX4 33 "ShunLots" "laws" "[LShunLots$Law;", Cond.fieldLink RX4 180 "ShunLots$Law" "made" "Z", Cond.methodLink RX4 62 yX4_isPlace, Cond.static yX4_isPlace, Cond.code yX4_isPlace cX4_isPlace 1 (some .boolean), Cond.methodLink RX4 69 yX4_isAmong, Cond.static yX4_isAmong, Cond.code yX4_isAmong cX4_isAmong 3 (some .boolean), Cond.methodLink RX4 145 yX4_isWhat, Cond.static yX4_isWhat, Cond.code yX4_isWhat cX4_isWhat 1 (some .boolean), Cond.methodLink RX4 162 yX0_sumOfCounts, Cond.instanceMethod yX0_sumOfCounts, Cond.selects RX0 yX0_sumOfCounts yX0_sumOfCounts, Cond.initialized RX0, Cond.code yX0_sumOfCounts cX0_sumOfCounts 4 (some .long), Cond.fieldLink RX0 7 "ShunLots$Law" "shares" "[J"]
def wsX4_mean_r2 : List Cond := [Cond.methodLink RX0 27 yJ6_bitCount_0f7a4, Cond.static yJ6_bitCount_0f7a4, Cond.initialized RJ6, Cond.code yJ6_bitCount_0f7a4 cJ6_bitCount_0f7a4 1 (some .int), Cond.constant RJ6 265 (1431655765), Cond.constant RJ6 266 (858993459), Cond.constant RJ6 267 (252645135), Cond.methodLink RX4 148 yX4_lowest, Cond.static yX4_lowest, Cond.code yX4_lowest cX4_lowest 7 (some .long), Cond.methodLink RX4 194 Lib.MathLoose.abs_long.x, Cond.static Lib.MathLoose.abs_long.x, Cond.initialized "java/lang/Math", Cond.code Lib.MathLoose.abs_long.x Lib.MathLoose.abs_long.code 2 (some .long), Cond.methodLink RX4 186 yX4_commonDivisor, Cond.static yX4_commonDivisor, Cond.code yX4_commonDivisor cX4_commonDivisor 11 (some .long)]
def wsX4_mean : List Cond := .code yX4_mean cX4_mean 4 (some .long) :: ((wsX4_mean_r1 ++ wsX4_mean_r2) ++ wsX00 ++ wsX40)
def wsX4_spread_r1 : List Cond := [Cond.constantLong RX4 143 (-1), Cond.fieldLink RX4 139 "ShunLots$Law" "sum" "J", Cond.methodLink RX4 123 yX4_lawAt, Cond.instanceMethod yX4_lawAt, Cond.selects RX4 yX4_lawAt yX4_lawAt, Cond.initialized RX4, Cond.code yX4_lawAt cX4_lawAt 2 (some (.object "ShunLots$Law")), Cond.fieldLink RX4 33 "ShunLots" "laws" "[LShunLots$Law;", Cond.fieldLink RX4 180 "ShunLots$Law" "made" "Z", Cond.methodLink RX4 62 yX4_isPlace, Cond.static yX4_isPlace, Cond.code yX4_isPlace cX4_isPlace 1 (some .boolean), Cond.methodLink RX4 69 yX4_isAmong, Cond.static yX4_isAmong, Cond.code yX4_isAmong cX4_isAmong 3 (some .boolean), Cond.methodLink RX4 145 yX4_isWhat, Cond.static yX4_isWhat, Cond.code yX4_isWhat cX4_isWhat 1 (some .boolean), Cond.methodLink RX4 162 yX0_sumOfCounts, Cond.instanceMethod yX0_sumOfCounts, Cond.selects RX0 yX0_sumOfCounts yX0_sumOfCounts, Cond.initialized RX0, Cond.code yX0_sumOfCounts cX0_sumOfCounts 4 (some .long), Cond.fieldLink RX0 7 "ShunLots$Law" "shares" "[J"]
def wsX4_spread_r2 : List Cond := [Cond.methodLink RX0 27 yJ6_bitCount_0f7a4, Cond.static yJ6_bitCount_0f7a4, Cond.initialized RJ6, Cond.code yJ6_bitCount_0f7a4 cJ6_bitCount_0f7a4 1 (some .int), Cond.constant RJ6 265 (1431655765), Cond.constant RJ6 266 (858993459), Cond.constant RJ6 267 (252645135), Cond.methodLink RX4 166 yX0_sumOfSquares, Cond.instanceMethod yX0_sumOfSquares, Cond.selects RX0 yX0_sumOfSquares yX0_sumOfSquares, Cond.code yX0_sumOfSquares cX0_sumOfSquares 6 (some .long), Cond.methodLink RX4 148 yX4_lowest, Cond.static yX4_lowest, Cond.code yX4_lowest cX4_lowest 7 (some .long), Cond.methodLink RX4 194 Lib.MathLoose.abs_long.x, Cond.static Lib.MathLoose.abs_long.x, Cond.initialized "java/lang/Math", Cond.code Lib.MathLoose.abs_long.x Lib.MathLoose.abs_long.code 2 (some .long), Cond.methodLink RX4 186 yX4_commonDivisor, Cond.static yX4_commonDivisor, Cond.code yX4_commonDivisor cX4_commonDivisor 11 (some .long)]
def wsX4_spread : List Cond := .code yX4_spread cX4_spread 8 (some .long) :: ((wsX4_spread_r1 ++ wsX4_spread_r2) ++ wsX00 ++ wsX40)
def wsX4_both_r1 : List Cond := [Cond.fieldLink RX4 139 "ShunLots$Law" "sum" "J", Cond.methodLink RX4 123 yX4_lawAt, Cond.instanceMethod yX4_lawAt, Cond.selects RX4 yX4_lawAt yX4_lawAt, Cond.initialized RX4, Cond.code yX4_lawAt cX4_lawAt 2 (some (.object "ShunLots$Law")), Cond.fieldLink RX4 33 "ShunLots" "laws" "[LShunLots$Law;", Cond.fieldLink RX4 180 "ShunLots$Law" "made" "Z", Cond.methodLink RX4 62 yX4_isPlace, Cond.static yX4_isPlace, Cond.code yX4_isPlace cX4_isPlace 1 (some .boolean), Cond.methodLink RX4 69 yX4_isAmong, Cond.static yX4_isAmong, Cond.code yX4_isAmong cX4_isAmong 3 (some .boolean), Cond.methodLink RX4 66 yX4_isThing, Cond.instanceMethod yX4_isThing, Cond.selects RX4 yX4_isThing yX4_isThing, Cond.code yX4_isThing cX4_isThing 2 (some .boolean), Cond.fieldLink RX4 18 "ShunLots" "things" "I", Cond.methodLink RX4 145 yX4_isWhat, Cond.static yX4_isWhat, Cond.code yX4_isWhat cX4_isWhat 1 (some .boolean), Cond.methodLink RX4 169 yX0_apartness, Cond.instanceMethod yX0_apartness]
def wsX4_both_r2 : List Cond := [Cond.selects RX0 yX0_apartness yX0_apartness, Cond.initialized RX0, Cond.code yX0_apartness cX0_apartness 3 (some .long), Cond.fieldLink RX0 13 "ShunLots$Law" "sum" "J", Cond.methodLink RX0 33 yX0_sumFitting, Cond.instanceMethod yX0_sumFitting, Cond.selects RX0 yX0_sumFitting yX0_sumFitting, Cond.code yX0_sumFitting cX0_sumFitting 6 (some .long), Cond.fieldLink RX0 7 "ShunLots$Law" "shares" "[J", Cond.static yX4_fits, Cond.code yX4_fits cX4_fits 3 (some .boolean), Cond.methodLink RX4 148 yX4_lowest, Cond.static yX4_lowest, Cond.code yX4_lowest cX4_lowest 7 (some .long), Cond.methodLink RX4 194 Lib.MathLoose.abs_long.x, Cond.static Lib.MathLoose.abs_long.x, Cond.initialized "java/lang/Math", Cond.code Lib.MathLoose.abs_long.x Lib.MathLoose.abs_long.code 2 (some .long), Cond.constantLong RX4 143 (-1), Cond.methodLink RX4 186 yX4_commonDivisor, Cond.static yX4_commonDivisor, Cond.code yX4_commonDivisor cX4_commonDivisor 11 (some .long)]
def wsX4_both : List Cond := .code yX4_both cX4_both 6 (some .long) :: ((wsX4_both_r1 ++ wsX4_both_r2) ++ wsX00 ++ wsX40)
def wsX4_shuns_r1 : List Cond := [Cond.fieldLink RX4 18 "ShunLots" "things" "I", Cond.methodLink RX4 123 yX4_lawAt, Cond.instanceMethod yX4_lawAt, Cond.selects RX4 yX4_lawAt yX4_lawAt, Cond.initialized RX4, Cond.code yX4_lawAt cX4_lawAt 2 (some (.object "ShunLots$Law")), Cond.fieldLink RX4 33 "ShunLots" "laws" "[LShunLots$Law;", Cond.fieldLink RX4 180 "ShunLots$Law" "made" "Z", Cond.methodLink RX4 62 yX4_isPlace, Cond.static yX4_isPlace, Cond.code yX4_isPlace cX4_isPlace 1 (some .boolean), Cond.methodLink RX4 69 yX4_isAmong, Cond.static yX4_isAmong, Cond.code yX4_isAmong cX4_isAmong 3 (some .boolean), Cond.methodLink RX4 169 yX0_apartness, Cond.instanceMethod yX0_apartness, Cond.selects RX0 yX0_apartness yX0_apartness, Cond.initialized RX0, Cond.code yX0_apartness cX0_apartness 3 (some .long), Cond.fieldLink RX0 13 "ShunLots$Law" "sum" "J", Cond.methodLink RX0 33 yX0_sumFitting, Cond.instanceMethod yX0_sumFitting, Cond.selects RX0 yX0_sumFitting yX0_sumFitting, Cond.code yX0_sumFitting cX0_sumFitting 6 (some .long)]
def wsX4_shuns_r2 : List Cond := [Cond.fieldLink RX0 7 "ShunLots$Law" "shares" "[J", Cond.static yX4_fits, Cond.code yX4_fits cX4_fits 3 (some .boolean)]
def wsX4_shuns : List Cond := .code yX4_shuns cX4_shuns 5 (some .int) :: ((wsX4_shuns_r1 ++ wsX4_shuns_r2) ++ wsX40 ++ wsX00)
def wsX4_rises_r1 : List Cond := [Cond.fieldLink RX4 18 "ShunLots" "things" "I", Cond.methodLink RX4 123 yX4_lawAt, Cond.instanceMethod yX4_lawAt, Cond.selects RX4 yX4_lawAt yX4_lawAt, Cond.initialized RX4, Cond.code yX4_lawAt cX4_lawAt 2 (some (.object "ShunLots$Law")), Cond.fieldLink RX4 33 "ShunLots" "laws" "[LShunLots$Law;", Cond.fieldLink RX4 180 "ShunLots$Law" "made" "Z", Cond.methodLink RX4 62 yX4_isPlace, Cond.static yX4_isPlace, Cond.code yX4_isPlace cX4_isPlace 1 (some .boolean), Cond.methodLink RX4 69 yX4_isAmong, Cond.static yX4_isAmong, Cond.code yX4_isAmong cX4_isAmong 3 (some .boolean), Cond.methodLink RX4 159 yX0_sumOfSize, Cond.instanceMethod yX0_sumOfSize, Cond.selects RX0 yX0_sumOfSize yX0_sumOfSize, Cond.initialized RX0, Cond.code yX0_sumOfSize cX0_sumOfSize 5 (some .long), Cond.fieldLink RX0 7 "ShunLots$Law" "shares" "[J", Cond.methodLink RX0 27 yJ6_bitCount_0f7a4, Cond.static yJ6_bitCount_0f7a4, Cond.initialized RJ6, Cond.code yJ6_bitCount_0f7a4 cJ6_bitCount_0f7a4 1 (some .int)]
def wsX4_rises_r2 : List Cond := [Cond.constant RJ6 265 (1431655765), Cond.constant RJ6 266 (858993459), Cond.constant RJ6 267 (252645135)]
def wsX4_rises : List Cond := .code yX4_rises cX4_rises 9 (some .int) :: ((wsX4_rises_r1 ++ wsX4_rises_r2) ++ wsX40 ++ wsX00)
def wsX4_greatest : List Cond := .code yX4_greatest cX4_greatest 5 (some .int) :: ([.fieldLink RX4 22 "ShunLots" "sets" "I", .fieldLink RX4 130 "ShunLots$Law" "shares" "[J", .methodLink RX4 123 yX4_lawAt, .instanceMethod yX4_lawAt, .selects RX4 yX4_lawAt yX4_lawAt, .initialized RX4, .code yX4_lawAt cX4_lawAt 2 (some (.object "ShunLots$Law")), .fieldLink RX4 33 "ShunLots" "laws" "[LShunLots$Law;", .fieldLink RX4 180 "ShunLots$Law" "made" "Z", .methodLink RX4 62 yX4_isPlace, .static yX4_isPlace, .code yX4_isPlace cX4_isPlace 1 (some .boolean), .methodLink RX4 69 yX4_isAmong, .static yX4_isAmong, .code yX4_isAmong cX4_isAmong 3 (some .boolean)] ++ wsX40 ++ wsX00)
def wsX4_withBestThing : List Cond := .code yX4_withBestThing cX4_withBestThing 6 (some .int) :: ([.fieldLink RX4 18 "ShunLots" "things" "I", .fieldLink RX4 130 "ShunLots$Law" "shares" "[J"] ++ wsX40 ++ wsX00)
def wsX4_greedy : List Cond := .code yX4_greedy cX4_greedy 6 (some .int) :: ([.methodLink RX4 123 yX4_lawAt, .instanceMethod yX4_lawAt, .selects RX4 yX4_lawAt yX4_lawAt, .initialized RX4, .code yX4_lawAt cX4_lawAt 2 (some (.object "ShunLots$Law")), .fieldLink RX4 33 "ShunLots" "laws" "[LShunLots$Law;", .fieldLink RX4 180 "ShunLots$Law" "made" "Z", .methodLink RX4 62 yX4_isPlace, .static yX4_isPlace, .code yX4_isPlace cX4_isPlace 1 (some .boolean), .methodLink RX4 69 yX4_isAmong, .static yX4_isAmong, .code yX4_isAmong cX4_isAmong 3 (some .boolean), .methodLink RX4 156 yX4_isCount, .instanceMethod yX4_isCount, .selects RX4 yX4_isCount yX4_isCount, .code yX4_isCount cX4_isCount 2 (some .boolean), .fieldLink RX4 18 "ShunLots" "things" "I", .methodLink RX4 172 yX4_withBestThing, .instanceMethod yX4_withBestThing, .selects RX4 yX4_withBestThing yX4_withBestThing, .code yX4_withBestThing cX4_withBestThing 6 (some .int), .fieldLink RX4 130 "ShunLots$Law" "shares" "[J"] ++ wsX40 ++ wsX00)
def wsX4_same : List Cond := .code yX4_same cX4_same 6 (some .int) :: ([.fieldLink RX4 22 "ShunLots" "sets" "I", .fieldLink RX4 130 "ShunLots$Law" "shares" "[J", .methodLink RX4 123 yX4_lawAt, .instanceMethod yX4_lawAt, .selects RX4 yX4_lawAt yX4_lawAt, .initialized RX4, .code yX4_lawAt cX4_lawAt 2 (some (.object "ShunLots$Law")), .fieldLink RX4 33 "ShunLots" "laws" "[LShunLots$Law;", .fieldLink RX4 180 "ShunLots$Law" "made" "Z", .methodLink RX4 62 yX4_isPlace, .static yX4_isPlace, .code yX4_isPlace cX4_isPlace 1 (some .boolean), .methodLink RX4 69 yX4_isAmong, .static yX4_isAmong, .code yX4_isAmong cX4_isAmong 3 (some .boolean)] ++ wsX40 ++ wsX00)
def wsX4_draw : List Cond := .code yX4_draw cX4_draw 15 (some .int) :: ([.fieldLink RX4 18 "ShunLots" "things" "I", .constantLong RX4 176 (6364136223846793005), .constantLong RX4 178 (1442695040888963407), .methodLink RX4 123 yX4_lawAt, .instanceMethod yX4_lawAt, .selects RX4 yX4_lawAt yX4_lawAt, .initialized RX4, .code yX4_lawAt cX4_lawAt 2 (some (.object "ShunLots$Law")), .fieldLink RX4 33 "ShunLots" "laws" "[LShunLots$Law;", .fieldLink RX4 180 "ShunLots$Law" "made" "Z", .methodLink RX4 62 yX4_isPlace, .static yX4_isPlace, .code yX4_isPlace cX4_isPlace 1 (some .boolean), .methodLink RX4 69 yX4_isAmong, .static yX4_isAmong, .code yX4_isAmong cX4_isAmong 3 (some .boolean), .methodLink RX4 152 yX0_sumFitting, .instanceMethod yX0_sumFitting, .selects RX0 yX0_sumFitting yX0_sumFitting, .initialized RX0, .code yX0_sumFitting cX0_sumFitting 6 (some .long), .fieldLink RX0 7 "ShunLots$Law" "shares" "[J", .static yX4_fits, .code yX4_fits cX4_fits 3 (some .boolean)] ++ wsX40 ++ wsX00)
def wsX5_in : List Cond := .code yX5_in cX5_in 3 (some .boolean) :: ([])
def wsX5_init : List Cond := .code yX5_init cX5_init 2 none :: ([.methodLink RX5 1 objectInit, .instanceMethod objectInit, .code objectInit ⟨#[0xb1]⟩ 1 none, .arrayClass .int, .fieldLink RX5 7 "ShunLotsModel" "table" "[I", .fieldLink RX5 13 "ShunLotsModel" "thing" "[I", .arrayClass .long, .fieldLink RX5 16 "ShunLotsModel" "by" "[J", .fieldLink RX5 20 "ShunLotsModel" "law" "[J", .fieldLink RX5 23 "ShunLotsModel" "fresh" "[J", .fieldLink RX5 26 "ShunLotsModel" "hand" "[J", .arrayClass .boolean, .fieldLink RX5 29 "ShunLotsModel" "isMade" "[Z", .fieldLink RX5 33 "ShunLotsModel" "edgeA" "[I", .fieldLink RX5 36 "ShunLotsModel" "edgeB" "[I", .fieldLink RX5 39 "ShunLotsModel" "weight" "[I", .fieldLink RX5 42 "ShunLotsModel" "group" "[I", .fieldLink RX5 45 "ShunLotsModel" "n" "I", .fieldLink RX5 49 "ShunLotsModel" "sets" "I"] ++ wsX50)
def wsX5_isThing : List Cond := .code yX5_isThing cX5_isThing 2 (some .boolean) :: ([.fieldLink RX5 45 "ShunLotsModel" "n" "I", .methodLink RX5 52 yX5_in, .static yX5_in, .initialized RX5, .code yX5_in cX5_in 3 (some .boolean)] ++ wsX50)
def wsX5_isSet : List Cond := .code yX5_isSet cX5_isSet 2 (some .boolean) :: ([.fieldLink RX5 49 "ShunLotsModel" "sets" "I", .methodLink RX5 52 yX5_in, .static yX5_in, .initialized RX5, .code yX5_in cX5_in 3 (some .boolean)] ++ wsX50)
def wsX5_isPlace : List Cond := .code yX5_isPlace cX5_isPlace 1 (some .boolean) :: ([.methodLink RX5 52 yX5_in, .static yX5_in, .initialized RX5, .code yX5_in cX5_in 3 (some .boolean)])
def wsX5_sizeOf : List Cond := .code yX5_sizeOf cX5_sizeOf 3 (some .int) :: ([])
def wsX5_entry : List Cond := .code yX5_entry cX5_entry 5 (some .boolean) :: ([.fieldLink RX5 7 "ShunLotsModel" "table" "[I", .methodLink RX5 56 yX5_isPlace, .static yX5_isPlace, .initialized RX5, .code yX5_isPlace cX5_isPlace 1 (some .boolean), .methodLink RX5 52 yX5_in, .static yX5_in, .code yX5_in cX5_in 3 (some .boolean), .methodLink RX5 60 yX5_isThing, .instanceMethod yX5_isThing, .selects RX5 yX5_isThing yX5_isThing, .code yX5_isThing cX5_isThing 2 (some .boolean), .fieldLink RX5 45 "ShunLotsModel" "n" "I"] ++ wsX50)
def wsX5_told : List Cond := .code yX5_told cX5_told 4 (some .int) :: ([.fieldLink RX5 7 "ShunLotsModel" "table" "[I", .methodLink RX5 56 yX5_isPlace, .static yX5_isPlace, .initialized RX5, .code yX5_isPlace cX5_isPlace 1 (some .boolean), .methodLink RX5 52 yX5_in, .static yX5_in, .code yX5_in cX5_in 3 (some .boolean), .methodLink RX5 60 yX5_isThing, .instanceMethod yX5_isThing, .selects RX5 yX5_isThing yX5_isThing, .code yX5_isThing cX5_isThing 2 (some .boolean), .fieldLink RX5 45 "ShunLotsModel" "n" "I"] ++ wsX50)
def wsX5_determinant : List Cond := .code yX5_determinant cX5_determinant 11 (some .long) :: ([.fieldLink RX5 45 "ShunLotsModel" "n" "I", .fieldLink RX5 13 "ShunLotsModel" "thing" "[I", .fieldLink RX5 16 "ShunLotsModel" "by" "[J", .fieldLink RX5 7 "ShunLotsModel" "table" "[I", .methodLink RX5 63 yX5_sizeOf, .static yX5_sizeOf, .initialized RX5, .code yX5_sizeOf cX5_sizeOf 3 (some .int)] ++ wsX50)
def wsX5_worth : List Cond := .code yX5_worth cX5_worth 3 (some .long) :: ([.methodLink RX5 56 yX5_isPlace, .static yX5_isPlace, .initialized RX5, .code yX5_isPlace cX5_isPlace 1 (some .boolean), .methodLink RX5 52 yX5_in, .static yX5_in, .code yX5_in cX5_in 3 (some .boolean), .methodLink RX5 67 yX5_isSet, .instanceMethod yX5_isSet, .selects RX5 yX5_isSet yX5_isSet, .code yX5_isSet cX5_isSet 2 (some .boolean), .fieldLink RX5 49 "ShunLotsModel" "sets" "I", .methodLink RX5 70 yX5_determinant, .instanceMethod yX5_determinant, .selects RX5 yX5_determinant yX5_determinant, .code yX5_determinant cX5_determinant 11 (some .long), .fieldLink RX5 45 "ShunLotsModel" "n" "I", .fieldLink RX5 13 "ShunLotsModel" "thing" "[I", .fieldLink RX5 16 "ShunLotsModel" "by" "[J", .fieldLink RX5 7 "ShunLotsModel" "table" "[I", .methodLink RX5 63 yX5_sizeOf, .static yX5_sizeOf, .code yX5_sizeOf cX5_sizeOf 3 (some .int)] ++ wsX50)
def wsX5_why : List Cond := .code yX5_why cX5_why 3 (some .int) :: ([.fieldLink RX5 49 "ShunLotsModel" "sets" "I", .methodLink RX5 56 yX5_isPlace, .static yX5_isPlace, .initialized RX5, .code yX5_isPlace cX5_isPlace 1 (some .boolean), .methodLink RX5 52 yX5_in, .static yX5_in, .code yX5_in cX5_in 3 (some .boolean), .methodLink RX5 70 yX5_determinant, .instanceMethod yX5_determinant, .selects RX5 yX5_determinant yX5_determinant, .code yX5_determinant cX5_determinant 11 (some .long), .fieldLink RX5 45 "ShunLotsModel" "n" "I", .fieldLink RX5 13 "ShunLotsModel" "thing" "[I", .fieldLink RX5 16 "ShunLotsModel" "by" "[J", .fieldLink RX5 7 "ShunLotsModel" "table" "[I", .methodLink RX5 63 yX5_sizeOf, .static yX5_sizeOf, .code yX5_sizeOf cX5_sizeOf 3 (some .int)] ++ wsX50)
def wsX5_whole : List Cond := .code yX5_whole cX5_whole 2 (some .long) :: ([.fieldLink RX5 49 "ShunLotsModel" "sets" "I", .methodLink RX5 56 yX5_isPlace, .static yX5_isPlace, .initialized RX5, .code yX5_isPlace cX5_isPlace 1 (some .boolean), .methodLink RX5 52 yX5_in, .static yX5_in, .code yX5_in cX5_in 3 (some .boolean), .methodLink RX5 70 yX5_determinant, .instanceMethod yX5_determinant, .selects RX5 yX5_determinant yX5_determinant, .code yX5_determinant cX5_determinant 11 (some .long), .fieldLink RX5 45 "ShunLotsModel" "n" "I", .fieldLink RX5 13 "ShunLotsModel" "thing" "[I", .fieldLink RX5 16 "ShunLotsModel" "by" "[J", .fieldLink RX5 7 "ShunLotsModel" "table" "[I", .methodLink RX5 63 yX5_sizeOf, .static yX5_sizeOf, .code yX5_sizeOf cX5_sizeOf 3 (some .int)] ++ wsX50)
def wsX5_isLaw : List Cond := .code yX5_isLaw cX5_isLaw 2 (some .boolean) :: ([.fieldLink RX5 29 "ShunLotsModel" "isMade" "[Z", .methodLink RX5 56 yX5_isPlace, .static yX5_isPlace, .initialized RX5, .code yX5_isPlace cX5_isPlace 1 (some .boolean), .methodLink RX5 52 yX5_in, .static yX5_in, .code yX5_in cX5_in 3 (some .boolean)] ++ wsX50)
def wsX5_common : List Cond := .code yX5_common cX5_common 10 (some .long) :: ([])
def wsX5_clear : List Cond := .code yX5_clear cX5_clear 2 none :: ([.fieldLink RX5 23 "ShunLotsModel" "fresh" "[J"] ++ wsX50)
def wsX5_makes : List Cond := .code yX5_makes cX5_makes 5 (some .boolean) :: ([.fieldLink RX5 49 "ShunLotsModel" "sets" "I", .fieldLink RX5 23 "ShunLotsModel" "fresh" "[J", .constantLong RX5 78 (4000000), .fieldLink RX5 20 "ShunLotsModel" "law" "[J", .fieldLink RX5 29 "ShunLotsModel" "isMade" "[Z", .methodLink RX5 74 yX5_common, .static yX5_common, .initialized RX5, .code yX5_common cX5_common 10 (some .long)] ++ wsX50)
def wsX5_shun_r1 : List Cond := [Cond.fieldLink RX5 49 "ShunLotsModel" "sets" "I", Cond.fieldLink RX5 23 "ShunLotsModel" "fresh" "[J", Cond.methodLink RX5 56 yX5_isPlace, Cond.static yX5_isPlace, Cond.initialized RX5, Cond.code yX5_isPlace cX5_isPlace 1 (some .boolean), Cond.methodLink RX5 52 yX5_in, Cond.static yX5_in, Cond.code yX5_in cX5_in 3 (some .boolean), Cond.methodLink RX5 80 yX5_why, Cond.instanceMethod yX5_why, Cond.selects RX5 yX5_why yX5_why, Cond.code yX5_why cX5_why 3 (some .int), Cond.methodLink RX5 70 yX5_determinant, Cond.instanceMethod yX5_determinant, Cond.selects RX5 yX5_determinant yX5_determinant, Cond.code yX5_determinant cX5_determinant 11 (some .long), Cond.fieldLink RX5 45 "ShunLotsModel" "n" "I", Cond.fieldLink RX5 13 "ShunLotsModel" "thing" "[I", Cond.fieldLink RX5 16 "ShunLotsModel" "by" "[J", Cond.fieldLink RX5 7 "ShunLotsModel" "table" "[I", Cond.methodLink RX5 63 yX5_sizeOf, Cond.static yX5_sizeOf, Cond.code yX5_sizeOf cX5_sizeOf 3 (some .int)]
def wsX5_shun_r2 : List Cond := [Cond.methodLink RX5 83 yX5_clear, Cond.instanceMethod yX5_clear, Cond.selects RX5 yX5_clear yX5_clear, Cond.code yX5_clear cX5_clear 2 none, Cond.methodLink RX5 86 yX5_makes, Cond.instanceMethod yX5_makes, Cond.selects RX5 yX5_makes yX5_makes, Cond.code yX5_makes cX5_makes 5 (some .boolean), Cond.constantLong RX5 78 (4000000), Cond.fieldLink RX5 20 "ShunLotsModel" "law" "[J", Cond.fieldLink RX5 29 "ShunLotsModel" "isMade" "[Z", Cond.methodLink RX5 74 yX5_common, Cond.static yX5_common, Cond.code yX5_common cX5_common 10 (some .long)]
def wsX5_shun : List Cond := .code yX5_shun cX5_shun 4 (some .boolean) :: ((wsX5_shun_r1 ++ wsX5_shun_r2) ++ wsX50)
def wsX5_edge : List Cond := .code yX5_edge cX5_edge 5 (some .boolean) :: ([.fieldLink RX5 33 "ShunLotsModel" "edgeA" "[I", .fieldLink RX5 36 "ShunLotsModel" "edgeB" "[I", .fieldLink RX5 39 "ShunLotsModel" "weight" "[I", .methodLink RX5 60 yX5_isThing, .instanceMethod yX5_isThing, .selects RX5 yX5_isThing yX5_isThing, .initialized RX5, .code yX5_isThing cX5_isThing 2 (some .boolean), .fieldLink RX5 45 "ShunLotsModel" "n" "I", .methodLink RX5 52 yX5_in, .static yX5_in, .code yX5_in cX5_in 3 (some .boolean)] ++ wsX50)
def wsX5_treeOf : List Cond := .code yX5_treeOf cX5_treeOf 11 (some .long) :: ([.fieldLink RX5 42 "ShunLotsModel" "group" "[I", .fieldLink RX5 45 "ShunLotsModel" "n" "I", .fieldLink RX5 33 "ShunLotsModel" "edgeA" "[I", .fieldLink RX5 36 "ShunLotsModel" "edgeB" "[I", .fieldLink RX5 39 "ShunLotsModel" "weight" "[I", .methodLink RX5 63 yX5_sizeOf, .static yX5_sizeOf, .initialized RX5, .code yX5_sizeOf cX5_sizeOf 3 (some .int)] ++ wsX50)
def wsX5_all : List Cond := .code yX5_all cX5_all 5 (some .long) :: ([.fieldLink RX5 49 "ShunLotsModel" "sets" "I", .methodLink RX5 52 yX5_in, .static yX5_in, .initialized RX5, .code yX5_in cX5_in 3 (some .boolean), .methodLink RX5 89 yX5_treeOf, .instanceMethod yX5_treeOf, .selects RX5 yX5_treeOf yX5_treeOf, .code yX5_treeOf cX5_treeOf 11 (some .long), .fieldLink RX5 42 "ShunLotsModel" "group" "[I", .fieldLink RX5 45 "ShunLotsModel" "n" "I", .fieldLink RX5 33 "ShunLotsModel" "edgeA" "[I", .fieldLink RX5 36 "ShunLotsModel" "edgeB" "[I", .fieldLink RX5 39 "ShunLotsModel" "weight" "[I", .methodLink RX5 63 yX5_sizeOf, .static yX5_sizeOf, .code yX5_sizeOf cX5_sizeOf 3 (some .int)] ++ wsX50)
def wsX5_trees_r1 : List Cond := [Cond.fieldLink RX5 49 "ShunLotsModel" "sets" "I", Cond.fieldLink RX5 23 "ShunLotsModel" "fresh" "[J", Cond.methodLink RX5 52 yX5_in, Cond.static yX5_in, Cond.initialized RX5, Cond.code yX5_in cX5_in 3 (some .boolean), Cond.methodLink RX5 56 yX5_isPlace, Cond.static yX5_isPlace, Cond.code yX5_isPlace cX5_isPlace 1 (some .boolean), Cond.methodLink RX5 83 yX5_clear, Cond.instanceMethod yX5_clear, Cond.selects RX5 yX5_clear yX5_clear, Cond.code yX5_clear cX5_clear 2 none, Cond.methodLink RX5 89 yX5_treeOf, Cond.instanceMethod yX5_treeOf, Cond.selects RX5 yX5_treeOf yX5_treeOf, Cond.code yX5_treeOf cX5_treeOf 11 (some .long), Cond.fieldLink RX5 42 "ShunLotsModel" "group" "[I", Cond.fieldLink RX5 45 "ShunLotsModel" "n" "I", Cond.fieldLink RX5 33 "ShunLotsModel" "edgeA" "[I", Cond.fieldLink RX5 36 "ShunLotsModel" "edgeB" "[I", Cond.fieldLink RX5 39 "ShunLotsModel" "weight" "[I", Cond.methodLink RX5 63 yX5_sizeOf, Cond.static yX5_sizeOf]
def wsX5_trees_r2 : List Cond := [Cond.code yX5_sizeOf cX5_sizeOf 3 (some .int), Cond.methodLink RX5 86 yX5_makes, Cond.instanceMethod yX5_makes, Cond.selects RX5 yX5_makes yX5_makes, Cond.code yX5_makes cX5_makes 5 (some .boolean), Cond.constantLong RX5 78 (4000000), Cond.fieldLink RX5 20 "ShunLotsModel" "law" "[J", Cond.fieldLink RX5 29 "ShunLotsModel" "isMade" "[Z", Cond.methodLink RX5 74 yX5_common, Cond.static yX5_common, Cond.code yX5_common cX5_common 10 (some .long)]
def wsX5_trees : List Cond := .code yX5_trees cX5_trees 4 (some .boolean) :: ((wsX5_trees_r1 ++ wsX5_trees_r2) ++ wsX50)
def wsX5_tell : List Cond := .code yX5_tell cX5_tell 3 (some .boolean) :: ([.constant RX5 93 (4000000), .fieldLink RX5 26 "ShunLotsModel" "hand" "[J", .methodLink RX5 67 yX5_isSet, .instanceMethod yX5_isSet, .selects RX5 yX5_isSet yX5_isSet, .initialized RX5, .code yX5_isSet cX5_isSet 2 (some .boolean), .fieldLink RX5 49 "ShunLotsModel" "sets" "I", .methodLink RX5 52 yX5_in, .static yX5_in, .code yX5_in cX5_in 3 (some .boolean)] ++ wsX50)
def wsX5_hand : List Cond := .code yX5_hand cX5_hand 3 (some .boolean) :: ([.fieldLink RX5 49 "ShunLotsModel" "sets" "I", .fieldLink RX5 23 "ShunLotsModel" "fresh" "[J", .fieldLink RX5 26 "ShunLotsModel" "hand" "[J", .methodLink RX5 56 yX5_isPlace, .static yX5_isPlace, .initialized RX5, .code yX5_isPlace cX5_isPlace 1 (some .boolean), .methodLink RX5 52 yX5_in, .static yX5_in, .code yX5_in cX5_in 3 (some .boolean), .methodLink RX5 83 yX5_clear, .instanceMethod yX5_clear, .selects RX5 yX5_clear yX5_clear, .code yX5_clear cX5_clear 2 none, .methodLink RX5 86 yX5_makes, .instanceMethod yX5_makes, .selects RX5 yX5_makes yX5_makes, .code yX5_makes cX5_makes 5 (some .boolean), .constantLong RX5 78 (4000000), .fieldLink RX5 20 "ShunLotsModel" "law" "[J", .fieldLink RX5 29 "ShunLotsModel" "isMade" "[Z", .methodLink RX5 74 yX5_common, .static yX5_common, .code yX5_common cX5_common 10 (some .long)] ++ wsX50)
def wsX5_given_r1 : List Cond := [Cond.fieldLink RX5 49 "ShunLotsModel" "sets" "I", Cond.fieldLink RX5 23 "ShunLotsModel" "fresh" "[J", Cond.fieldLink RX5 20 "ShunLotsModel" "law" "[J", Cond.methodLink RX5 94 yX5_isLaw, Cond.instanceMethod yX5_isLaw, Cond.selects RX5 yX5_isLaw yX5_isLaw, Cond.initialized RX5, Cond.code yX5_isLaw cX5_isLaw 2 (some .boolean), Cond.fieldLink RX5 29 "ShunLotsModel" "isMade" "[Z", Cond.methodLink RX5 56 yX5_isPlace, Cond.static yX5_isPlace, Cond.code yX5_isPlace cX5_isPlace 1 (some .boolean), Cond.methodLink RX5 52 yX5_in, Cond.static yX5_in, Cond.code yX5_in cX5_in 3 (some .boolean), Cond.methodLink RX5 67 yX5_isSet, Cond.instanceMethod yX5_isSet, Cond.selects RX5 yX5_isSet yX5_isSet, Cond.code yX5_isSet cX5_isSet 2 (some .boolean), Cond.methodLink RX5 83 yX5_clear, Cond.instanceMethod yX5_clear, Cond.selects RX5 yX5_clear yX5_clear, Cond.code yX5_clear cX5_clear 2 none, Cond.methodLink RX5 86 yX5_makes]
def wsX5_given_r2 : List Cond := [Cond.instanceMethod yX5_makes, Cond.selects RX5 yX5_makes yX5_makes, Cond.code yX5_makes cX5_makes 5 (some .boolean), Cond.constantLong RX5 78 (4000000), Cond.methodLink RX5 74 yX5_common, Cond.static yX5_common, Cond.code yX5_common cX5_common 10 (some .long)]
def wsX5_given : List Cond := .code yX5_given cX5_given 6 (some .boolean) :: ((wsX5_given_r1 ++ wsX5_given_r2) ++ wsX50)
def wsX5_canBe : List Cond := .code yX5_canBe cX5_canBe 4 (some .boolean) :: ([.methodLink RX5 94 yX5_isLaw, .instanceMethod yX5_isLaw, .selects RX5 yX5_isLaw yX5_isLaw, .initialized RX5, .code yX5_isLaw cX5_isLaw 2 (some .boolean), .fieldLink RX5 29 "ShunLotsModel" "isMade" "[Z", .methodLink RX5 56 yX5_isPlace, .static yX5_isPlace, .code yX5_isPlace cX5_isPlace 1 (some .boolean), .methodLink RX5 52 yX5_in, .static yX5_in, .code yX5_in cX5_in 3 (some .boolean), .methodLink RX5 67 yX5_isSet, .instanceMethod yX5_isSet, .selects RX5 yX5_isSet yX5_isSet, .code yX5_isSet cX5_isSet 2 (some .boolean), .fieldLink RX5 49 "ShunLotsModel" "sets" "I"] ++ wsX50)
def wsX5_thin_r1 : List Cond := [Cond.fieldLink RX5 49 "ShunLotsModel" "sets" "I", Cond.fieldLink RX5 23 "ShunLotsModel" "fresh" "[J", Cond.fieldLink RX5 20 "ShunLotsModel" "law" "[J", Cond.methodLink RX5 97 yX5_canBe, Cond.instanceMethod yX5_canBe, Cond.selects RX5 yX5_canBe yX5_canBe, Cond.initialized RX5, Cond.code yX5_canBe cX5_canBe 4 (some .boolean), Cond.methodLink RX5 94 yX5_isLaw, Cond.instanceMethod yX5_isLaw, Cond.selects RX5 yX5_isLaw yX5_isLaw, Cond.code yX5_isLaw cX5_isLaw 2 (some .boolean), Cond.fieldLink RX5 29 "ShunLotsModel" "isMade" "[Z", Cond.methodLink RX5 56 yX5_isPlace, Cond.static yX5_isPlace, Cond.code yX5_isPlace cX5_isPlace 1 (some .boolean), Cond.methodLink RX5 52 yX5_in, Cond.static yX5_in, Cond.code yX5_in cX5_in 3 (some .boolean), Cond.methodLink RX5 67 yX5_isSet, Cond.instanceMethod yX5_isSet, Cond.selects RX5 yX5_isSet yX5_isSet, Cond.code yX5_isSet cX5_isSet 2 (some .boolean), Cond.methodLink RX5 83 yX5_clear]
def wsX5_thin_r2 : List Cond := [Cond.instanceMethod yX5_clear, Cond.selects RX5 yX5_clear yX5_clear, Cond.code yX5_clear cX5_clear 2 none, Cond.methodLink RX5 63 yX5_sizeOf, Cond.static yX5_sizeOf, Cond.code yX5_sizeOf cX5_sizeOf 3 (some .int), Cond.methodLink RX5 86 yX5_makes, Cond.instanceMethod yX5_makes, Cond.selects RX5 yX5_makes yX5_makes, Cond.code yX5_makes cX5_makes 5 (some .boolean), Cond.constantLong RX5 78 (4000000), Cond.methodLink RX5 74 yX5_common, Cond.static yX5_common, Cond.code yX5_common cX5_common 10 (some .long)]
def wsX5_thin : List Cond := .code yX5_thin cX5_thin 6 (some .boolean) :: ((wsX5_thin_r1 ++ wsX5_thin_r2) ++ wsX50)
def wsX5_part_r1 : List Cond := [Cond.fieldLink RX5 49 "ShunLotsModel" "sets" "I", Cond.fieldLink RX5 23 "ShunLotsModel" "fresh" "[J", Cond.fieldLink RX5 20 "ShunLotsModel" "law" "[J", Cond.methodLink RX5 97 yX5_canBe, Cond.instanceMethod yX5_canBe, Cond.selects RX5 yX5_canBe yX5_canBe, Cond.initialized RX5, Cond.code yX5_canBe cX5_canBe 4 (some .boolean), Cond.methodLink RX5 94 yX5_isLaw, Cond.instanceMethod yX5_isLaw, Cond.selects RX5 yX5_isLaw yX5_isLaw, Cond.code yX5_isLaw cX5_isLaw 2 (some .boolean), Cond.fieldLink RX5 29 "ShunLotsModel" "isMade" "[Z", Cond.methodLink RX5 56 yX5_isPlace, Cond.static yX5_isPlace, Cond.code yX5_isPlace cX5_isPlace 1 (some .boolean), Cond.methodLink RX5 52 yX5_in, Cond.static yX5_in, Cond.code yX5_in cX5_in 3 (some .boolean), Cond.methodLink RX5 67 yX5_isSet, Cond.instanceMethod yX5_isSet, Cond.selects RX5 yX5_isSet yX5_isSet, Cond.code yX5_isSet cX5_isSet 2 (some .boolean), Cond.methodLink RX5 83 yX5_clear]
def wsX5_part_r2 : List Cond := [Cond.instanceMethod yX5_clear, Cond.selects RX5 yX5_clear yX5_clear, Cond.code yX5_clear cX5_clear 2 none, Cond.methodLink RX5 86 yX5_makes, Cond.instanceMethod yX5_makes, Cond.selects RX5 yX5_makes yX5_makes, Cond.code yX5_makes cX5_makes 5 (some .boolean), Cond.constantLong RX5 78 (4000000), Cond.methodLink RX5 74 yX5_common, Cond.static yX5_common, Cond.code yX5_common cX5_common 10 (some .long)]
def wsX5_part : List Cond := .code yX5_part cX5_part 5 (some .boolean) :: ((wsX5_part_r1 ++ wsX5_part_r2) ++ wsX50)
def wsX5_other_r1 : List Cond := [Cond.fieldLink RX5 49 "ShunLotsModel" "sets" "I", Cond.fieldLink RX5 23 "ShunLotsModel" "fresh" "[J", Cond.fieldLink RX5 20 "ShunLotsModel" "law" "[J", Cond.methodLink RX5 97 yX5_canBe, Cond.instanceMethod yX5_canBe, Cond.selects RX5 yX5_canBe yX5_canBe, Cond.initialized RX5, Cond.code yX5_canBe cX5_canBe 4 (some .boolean), Cond.methodLink RX5 94 yX5_isLaw, Cond.instanceMethod yX5_isLaw, Cond.selects RX5 yX5_isLaw yX5_isLaw, Cond.code yX5_isLaw cX5_isLaw 2 (some .boolean), Cond.fieldLink RX5 29 "ShunLotsModel" "isMade" "[Z", Cond.methodLink RX5 56 yX5_isPlace, Cond.static yX5_isPlace, Cond.code yX5_isPlace cX5_isPlace 1 (some .boolean), Cond.methodLink RX5 52 yX5_in, Cond.static yX5_in, Cond.code yX5_in cX5_in 3 (some .boolean), Cond.methodLink RX5 67 yX5_isSet, Cond.instanceMethod yX5_isSet, Cond.selects RX5 yX5_isSet yX5_isSet, Cond.code yX5_isSet cX5_isSet 2 (some .boolean), Cond.methodLink RX5 83 yX5_clear]
def wsX5_other_r2 : List Cond := [Cond.instanceMethod yX5_clear, Cond.selects RX5 yX5_clear yX5_clear, Cond.code yX5_clear cX5_clear 2 none, Cond.methodLink RX5 86 yX5_makes, Cond.instanceMethod yX5_makes, Cond.selects RX5 yX5_makes yX5_makes, Cond.code yX5_makes cX5_makes 5 (some .boolean), Cond.constantLong RX5 78 (4000000), Cond.methodLink RX5 74 yX5_common, Cond.static yX5_common, Cond.code yX5_common cX5_common 10 (some .long)]
def wsX5_other : List Cond := .code yX5_other cX5_other 5 (some .boolean) :: ((wsX5_other_r1 ++ wsX5_other_r2) ++ wsX50)
def wsX5_sum : List Cond := .code yX5_sum cX5_sum 5 (some .long) :: ([.fieldLink RX5 49 "ShunLotsModel" "sets" "I", .fieldLink RX5 20 "ShunLotsModel" "law" "[J"] ++ wsX50)
def wsX5_mix_r1 : List Cond := [Cond.fieldLink RX5 49 "ShunLotsModel" "sets" "I", Cond.fieldLink RX5 23 "ShunLotsModel" "fresh" "[J", Cond.fieldLink RX5 20 "ShunLotsModel" "law" "[J", Cond.methodLink RX5 94 yX5_isLaw, Cond.instanceMethod yX5_isLaw, Cond.selects RX5 yX5_isLaw yX5_isLaw, Cond.initialized RX5, Cond.code yX5_isLaw cX5_isLaw 2 (some .boolean), Cond.fieldLink RX5 29 "ShunLotsModel" "isMade" "[Z", Cond.methodLink RX5 56 yX5_isPlace, Cond.static yX5_isPlace, Cond.code yX5_isPlace cX5_isPlace 1 (some .boolean), Cond.methodLink RX5 52 yX5_in, Cond.static yX5_in, Cond.code yX5_in cX5_in 3 (some .boolean), Cond.methodLink RX5 83 yX5_clear, Cond.instanceMethod yX5_clear, Cond.selects RX5 yX5_clear yX5_clear, Cond.code yX5_clear cX5_clear 2 none, Cond.methodLink RX5 100 yX5_sum, Cond.instanceMethod yX5_sum, Cond.selects RX5 yX5_sum yX5_sum, Cond.code yX5_sum cX5_sum 5 (some .long), Cond.methodLink RX5 86 yX5_makes]
def wsX5_mix_r2 : List Cond := [Cond.instanceMethod yX5_makes, Cond.selects RX5 yX5_makes yX5_makes, Cond.code yX5_makes cX5_makes 5 (some .boolean), Cond.constantLong RX5 78 (4000000), Cond.methodLink RX5 74 yX5_common, Cond.static yX5_common, Cond.code yX5_common cX5_common 10 (some .long)]
def wsX5_mix : List Cond := .code yX5_mix cX5_mix 7 (some .boolean) :: ((wsX5_mix_r1 ++ wsX5_mix_r2) ++ wsX50)
def wsX5_share : List Cond := .code yX5_share cX5_share 3 (some .long) :: ([.fieldLink RX5 20 "ShunLotsModel" "law" "[J", .constantLong RX5 104 (-1), .methodLink RX5 94 yX5_isLaw, .instanceMethod yX5_isLaw, .selects RX5 yX5_isLaw yX5_isLaw, .initialized RX5, .code yX5_isLaw cX5_isLaw 2 (some .boolean), .fieldLink RX5 29 "ShunLotsModel" "isMade" "[Z", .methodLink RX5 56 yX5_isPlace, .static yX5_isPlace, .code yX5_isPlace cX5_isPlace 1 (some .boolean), .methodLink RX5 52 yX5_in, .static yX5_in, .code yX5_in cX5_in 3 (some .boolean), .methodLink RX5 67 yX5_isSet, .instanceMethod yX5_isSet, .selects RX5 yX5_isSet yX5_isSet, .code yX5_isSet cX5_isSet 2 (some .boolean), .fieldLink RX5 49 "ShunLotsModel" "sets" "I"] ++ wsX50)
def wsX5_fraction : List Cond := .code yX5_fraction cX5_fraction 7 (some .long) :: ([.methodLink RX5 74 yX5_common, .static yX5_common, .initialized RX5, .code yX5_common cX5_common 10 (some .long)])
def wsX5_isWhat : List Cond := .code yX5_isWhat cX5_isWhat 1 (some .boolean) :: ([.methodLink RX5 52 yX5_in, .static yX5_in, .initialized RX5, .code yX5_in cX5_in 3 (some .boolean)])
def wsX5_chance_r1 : List Cond := [Cond.fieldLink RX5 20 "ShunLotsModel" "law" "[J", Cond.constantLong RX5 104 (-1), Cond.methodLink RX5 94 yX5_isLaw, Cond.instanceMethod yX5_isLaw, Cond.selects RX5 yX5_isLaw yX5_isLaw, Cond.initialized RX5, Cond.code yX5_isLaw cX5_isLaw 2 (some .boolean), Cond.fieldLink RX5 29 "ShunLotsModel" "isMade" "[Z", Cond.methodLink RX5 56 yX5_isPlace, Cond.static yX5_isPlace, Cond.code yX5_isPlace cX5_isPlace 1 (some .boolean), Cond.methodLink RX5 52 yX5_in, Cond.static yX5_in, Cond.code yX5_in cX5_in 3 (some .boolean), Cond.methodLink RX5 67 yX5_isSet, Cond.instanceMethod yX5_isSet, Cond.selects RX5 yX5_isSet yX5_isSet, Cond.code yX5_isSet cX5_isSet 2 (some .boolean), Cond.fieldLink RX5 49 "ShunLotsModel" "sets" "I", Cond.methodLink RX5 106 yX5_isWhat, Cond.static yX5_isWhat, Cond.code yX5_isWhat cX5_isWhat 1 (some .boolean), Cond.methodLink RX5 100 yX5_sum, Cond.instanceMethod yX5_sum]
def wsX5_chance_r2 : List Cond := [Cond.selects RX5 yX5_sum yX5_sum, Cond.code yX5_sum cX5_sum 5 (some .long), Cond.methodLink RX5 109 yX5_fraction, Cond.static yX5_fraction, Cond.code yX5_fraction cX5_fraction 7 (some .long), Cond.methodLink RX5 74 yX5_common, Cond.static yX5_common, Cond.code yX5_common cX5_common 10 (some .long)]
def wsX5_chance : List Cond := .code yX5_chance cX5_chance 4 (some .long) :: ((wsX5_chance_r1 ++ wsX5_chance_r2) ++ wsX50)
def wsX5_sumOf : List Cond := .code yX5_sumOf cX5_sumOf 7 (some .long) :: ([.fieldLink RX5 49 "ShunLotsModel" "sets" "I", .fieldLink RX5 20 "ShunLotsModel" "law" "[J"] ++ wsX50)
def wsX5_within_r1 : List Cond := [Cond.constantLong RX5 104 (-1), Cond.methodLink RX5 94 yX5_isLaw, Cond.instanceMethod yX5_isLaw, Cond.selects RX5 yX5_isLaw yX5_isLaw, Cond.initialized RX5, Cond.code yX5_isLaw cX5_isLaw 2 (some .boolean), Cond.fieldLink RX5 29 "ShunLotsModel" "isMade" "[Z", Cond.methodLink RX5 56 yX5_isPlace, Cond.static yX5_isPlace, Cond.code yX5_isPlace cX5_isPlace 1 (some .boolean), Cond.methodLink RX5 52 yX5_in, Cond.static yX5_in, Cond.code yX5_in cX5_in 3 (some .boolean), Cond.methodLink RX5 67 yX5_isSet, Cond.instanceMethod yX5_isSet, Cond.selects RX5 yX5_isSet yX5_isSet, Cond.code yX5_isSet cX5_isSet 2 (some .boolean), Cond.fieldLink RX5 49 "ShunLotsModel" "sets" "I", Cond.methodLink RX5 106 yX5_isWhat, Cond.static yX5_isWhat, Cond.code yX5_isWhat cX5_isWhat 1 (some .boolean), Cond.methodLink RX5 113 yX5_sumOf, Cond.instanceMethod yX5_sumOf, Cond.selects RX5 yX5_sumOf yX5_sumOf]
def wsX5_within_r2 : List Cond := [Cond.code yX5_sumOf cX5_sumOf 7 (some .long), Cond.fieldLink RX5 20 "ShunLotsModel" "law" "[J", Cond.methodLink RX5 100 yX5_sum, Cond.instanceMethod yX5_sum, Cond.selects RX5 yX5_sum yX5_sum, Cond.code yX5_sum cX5_sum 5 (some .long), Cond.methodLink RX5 109 yX5_fraction, Cond.static yX5_fraction, Cond.code yX5_fraction cX5_fraction 7 (some .long), Cond.methodLink RX5 74 yX5_common, Cond.static yX5_common, Cond.code yX5_common cX5_common 10 (some .long)]
def wsX5_within : List Cond := .code yX5_within cX5_within 4 (some .long) :: ((wsX5_within_r1 ++ wsX5_within_r2) ++ wsX50)
def wsX5_out_r1 : List Cond := [Cond.constantLong RX5 104 (-1), Cond.methodLink RX5 94 yX5_isLaw, Cond.instanceMethod yX5_isLaw, Cond.selects RX5 yX5_isLaw yX5_isLaw, Cond.initialized RX5, Cond.code yX5_isLaw cX5_isLaw 2 (some .boolean), Cond.fieldLink RX5 29 "ShunLotsModel" "isMade" "[Z", Cond.methodLink RX5 56 yX5_isPlace, Cond.static yX5_isPlace, Cond.code yX5_isPlace cX5_isPlace 1 (some .boolean), Cond.methodLink RX5 52 yX5_in, Cond.static yX5_in, Cond.code yX5_in cX5_in 3 (some .boolean), Cond.methodLink RX5 67 yX5_isSet, Cond.instanceMethod yX5_isSet, Cond.selects RX5 yX5_isSet yX5_isSet, Cond.code yX5_isSet cX5_isSet 2 (some .boolean), Cond.fieldLink RX5 49 "ShunLotsModel" "sets" "I", Cond.methodLink RX5 106 yX5_isWhat, Cond.static yX5_isWhat, Cond.code yX5_isWhat cX5_isWhat 1 (some .boolean), Cond.methodLink RX5 113 yX5_sumOf, Cond.instanceMethod yX5_sumOf, Cond.selects RX5 yX5_sumOf yX5_sumOf]
def wsX5_out_r2 : List Cond := [Cond.code yX5_sumOf cX5_sumOf 7 (some .long), Cond.fieldLink RX5 20 "ShunLotsModel" "law" "[J", Cond.methodLink RX5 100 yX5_sum, Cond.instanceMethod yX5_sum, Cond.selects RX5 yX5_sum yX5_sum, Cond.code yX5_sum cX5_sum 5 (some .long), Cond.methodLink RX5 109 yX5_fraction, Cond.static yX5_fraction, Cond.code yX5_fraction cX5_fraction 7 (some .long), Cond.methodLink RX5 74 yX5_common, Cond.static yX5_common, Cond.code yX5_common cX5_common 10 (some .long)]
def wsX5_out : List Cond := .code yX5_out cX5_out 4 (some .long) :: ((wsX5_out_r1 ++ wsX5_out_r2) ++ wsX50)
def wsX5_ofSize : List Cond := .code yX5_ofSize cX5_ofSize 6 (some .long) :: ([.fieldLink RX5 49 "ShunLotsModel" "sets" "I", .fieldLink RX5 20 "ShunLotsModel" "law" "[J", .methodLink RX5 63 yX5_sizeOf, .static yX5_sizeOf, .initialized RX5, .code yX5_sizeOf cX5_sizeOf 3 (some .int)] ++ wsX50)
def wsX5_size_r1 : List Cond := [Cond.fieldLink RX5 45 "ShunLotsModel" "n" "I", Cond.constantLong RX5 104 (-1), Cond.methodLink RX5 94 yX5_isLaw, Cond.instanceMethod yX5_isLaw, Cond.selects RX5 yX5_isLaw yX5_isLaw, Cond.initialized RX5, Cond.code yX5_isLaw cX5_isLaw 2 (some .boolean), Cond.fieldLink RX5 29 "ShunLotsModel" "isMade" "[Z", Cond.methodLink RX5 56 yX5_isPlace, Cond.static yX5_isPlace, Cond.code yX5_isPlace cX5_isPlace 1 (some .boolean), Cond.methodLink RX5 52 yX5_in, Cond.static yX5_in, Cond.code yX5_in cX5_in 3 (some .boolean), Cond.methodLink RX5 106 yX5_isWhat, Cond.static yX5_isWhat, Cond.code yX5_isWhat cX5_isWhat 1 (some .boolean), Cond.methodLink RX5 116 yX5_ofSize, Cond.instanceMethod yX5_ofSize, Cond.selects RX5 yX5_ofSize yX5_ofSize, Cond.code yX5_ofSize cX5_ofSize 6 (some .long), Cond.fieldLink RX5 49 "ShunLotsModel" "sets" "I", Cond.fieldLink RX5 20 "ShunLotsModel" "law" "[J", Cond.methodLink RX5 63 yX5_sizeOf]
def wsX5_size_r2 : List Cond := [Cond.static yX5_sizeOf, Cond.code yX5_sizeOf cX5_sizeOf 3 (some .int), Cond.methodLink RX5 100 yX5_sum, Cond.instanceMethod yX5_sum, Cond.selects RX5 yX5_sum yX5_sum, Cond.code yX5_sum cX5_sum 5 (some .long), Cond.methodLink RX5 109 yX5_fraction, Cond.static yX5_fraction, Cond.code yX5_fraction cX5_fraction 7 (some .long), Cond.methodLink RX5 74 yX5_common, Cond.static yX5_common, Cond.code yX5_common cX5_common 10 (some .long)]
def wsX5_size : List Cond := .code yX5_size cX5_size 4 (some .long) :: ((wsX5_size_r1 ++ wsX5_size_r2) ++ wsX50)
def wsX5_mean_r1 : List Cond := [Cond.constantLong RX5 104 (-1), Cond.fieldLink RX5 45 "ShunLotsModel" "n" "I", Cond.methodLink RX5 94 yX5_isLaw, Cond.instanceMethod yX5_isLaw, Cond.selects RX5 yX5_isLaw yX5_isLaw, Cond.initialized RX5, Cond.code yX5_isLaw cX5_isLaw 2 (some .boolean), Cond.fieldLink RX5 29 "ShunLotsModel" "isMade" "[Z", Cond.methodLink RX5 56 yX5_isPlace, Cond.static yX5_isPlace, Cond.code yX5_isPlace cX5_isPlace 1 (some .boolean), Cond.methodLink RX5 52 yX5_in, Cond.static yX5_in, Cond.code yX5_in cX5_in 3 (some .boolean), Cond.methodLink RX5 106 yX5_isWhat, Cond.static yX5_isWhat, Cond.code yX5_isWhat cX5_isWhat 1 (some .boolean), Cond.methodLink RX5 116 yX5_ofSize, Cond.instanceMethod yX5_ofSize, Cond.selects RX5 yX5_ofSize yX5_ofSize, Cond.code yX5_ofSize cX5_ofSize 6 (some .long), Cond.fieldLink RX5 49 "ShunLotsModel" "sets" "I", Cond.fieldLink RX5 20 "ShunLotsModel" "law" "[J", Cond.methodLink RX5 63 yX5_sizeOf]
def wsX5_mean_r2 : List Cond := [Cond.static yX5_sizeOf, Cond.code yX5_sizeOf cX5_sizeOf 3 (some .int), Cond.methodLink RX5 100 yX5_sum, Cond.instanceMethod yX5_sum, Cond.selects RX5 yX5_sum yX5_sum, Cond.code yX5_sum cX5_sum 5 (some .long), Cond.methodLink RX5 109 yX5_fraction, Cond.static yX5_fraction, Cond.code yX5_fraction cX5_fraction 7 (some .long), Cond.methodLink RX5 74 yX5_common, Cond.static yX5_common, Cond.code yX5_common cX5_common 10 (some .long)]
def wsX5_mean : List Cond := .code yX5_mean cX5_mean 6 (some .long) :: ((wsX5_mean_r1 ++ wsX5_mean_r2) ++ wsX50)
def wsX5_spread_r1 : List Cond := [Cond.constantLong RX5 104 (-1), Cond.fieldLink RX5 45 "ShunLotsModel" "n" "I", Cond.methodLink RX5 94 yX5_isLaw, Cond.instanceMethod yX5_isLaw, Cond.selects RX5 yX5_isLaw yX5_isLaw, Cond.initialized RX5, Cond.code yX5_isLaw cX5_isLaw 2 (some .boolean), Cond.fieldLink RX5 29 "ShunLotsModel" "isMade" "[Z", Cond.methodLink RX5 56 yX5_isPlace, Cond.static yX5_isPlace, Cond.code yX5_isPlace cX5_isPlace 1 (some .boolean), Cond.methodLink RX5 52 yX5_in, Cond.static yX5_in, Cond.code yX5_in cX5_in 3 (some .boolean), Cond.methodLink RX5 106 yX5_isWhat, Cond.static yX5_isWhat, Cond.code yX5_isWhat cX5_isWhat 1 (some .boolean), Cond.methodLink RX5 116 yX5_ofSize, Cond.instanceMethod yX5_ofSize, Cond.selects RX5 yX5_ofSize yX5_ofSize, Cond.code yX5_ofSize cX5_ofSize 6 (some .long), Cond.fieldLink RX5 49 "ShunLotsModel" "sets" "I", Cond.fieldLink RX5 20 "ShunLotsModel" "law" "[J", Cond.methodLink RX5 63 yX5_sizeOf]
def wsX5_spread_r2 : List Cond := [Cond.static yX5_sizeOf, Cond.code yX5_sizeOf cX5_sizeOf 3 (some .int), Cond.methodLink RX5 100 yX5_sum, Cond.instanceMethod yX5_sum, Cond.selects RX5 yX5_sum yX5_sum, Cond.code yX5_sum cX5_sum 5 (some .long), Cond.methodLink RX5 109 yX5_fraction, Cond.static yX5_fraction, Cond.code yX5_fraction cX5_fraction 7 (some .long), Cond.methodLink RX5 74 yX5_common, Cond.static yX5_common, Cond.code yX5_common cX5_common 10 (some .long)]
def wsX5_spread : List Cond := .code yX5_spread cX5_spread 9 (some .long) :: ((wsX5_spread_r1 ++ wsX5_spread_r2) ++ wsX50)
def wsX5_shunning : List Cond := .code yX5_shunning cX5_shunning 4 (some .long) :: ([.methodLink RX5 113 yX5_sumOf, .instanceMethod yX5_sumOf, .selects RX5 yX5_sumOf yX5_sumOf, .initialized RX5, .code yX5_sumOf cX5_sumOf 7 (some .long), .fieldLink RX5 49 "ShunLotsModel" "sets" "I", .fieldLink RX5 20 "ShunLotsModel" "law" "[J", .methodLink RX5 100 yX5_sum, .instanceMethod yX5_sum, .selects RX5 yX5_sum yX5_sum, .code yX5_sum cX5_sum 5 (some .long)] ++ wsX50)
def wsX5_both_r1 : List Cond := [Cond.methodLink RX5 94 yX5_isLaw, Cond.instanceMethod yX5_isLaw, Cond.selects RX5 yX5_isLaw yX5_isLaw, Cond.initialized RX5, Cond.code yX5_isLaw cX5_isLaw 2 (some .boolean), Cond.fieldLink RX5 29 "ShunLotsModel" "isMade" "[Z", Cond.methodLink RX5 56 yX5_isPlace, Cond.static yX5_isPlace, Cond.code yX5_isPlace cX5_isPlace 1 (some .boolean), Cond.methodLink RX5 52 yX5_in, Cond.static yX5_in, Cond.code yX5_in cX5_in 3 (some .boolean), Cond.methodLink RX5 60 yX5_isThing, Cond.instanceMethod yX5_isThing, Cond.selects RX5 yX5_isThing yX5_isThing, Cond.code yX5_isThing cX5_isThing 2 (some .boolean), Cond.fieldLink RX5 45 "ShunLotsModel" "n" "I", Cond.methodLink RX5 106 yX5_isWhat, Cond.static yX5_isWhat, Cond.code yX5_isWhat cX5_isWhat 1 (some .boolean), Cond.methodLink RX5 100 yX5_sum, Cond.instanceMethod yX5_sum, Cond.selects RX5 yX5_sum yX5_sum, Cond.code yX5_sum cX5_sum 5 (some .long)]
def wsX5_both_r2 : List Cond := [Cond.fieldLink RX5 49 "ShunLotsModel" "sets" "I", Cond.fieldLink RX5 20 "ShunLotsModel" "law" "[J", Cond.methodLink RX5 119 yX5_shunning, Cond.instanceMethod yX5_shunning, Cond.selects RX5 yX5_shunning yX5_shunning, Cond.code yX5_shunning cX5_shunning 4 (some .long), Cond.methodLink RX5 113 yX5_sumOf, Cond.instanceMethod yX5_sumOf, Cond.selects RX5 yX5_sumOf yX5_sumOf, Cond.code yX5_sumOf cX5_sumOf 7 (some .long), Cond.methodLink RX5 109 yX5_fraction, Cond.static yX5_fraction, Cond.code yX5_fraction cX5_fraction 7 (some .long), Cond.methodLink RX5 74 yX5_common, Cond.static yX5_common, Cond.code yX5_common cX5_common 10 (some .long)]
def wsX5_both : List Cond := .code yX5_both cX5_both 7 (some .long) :: ((wsX5_both_r1 ++ wsX5_both_r2) ++ wsX50)
def wsX5_shuns_r1 : List Cond := [Cond.fieldLink RX5 45 "ShunLotsModel" "n" "I", Cond.methodLink RX5 94 yX5_isLaw, Cond.instanceMethod yX5_isLaw, Cond.selects RX5 yX5_isLaw yX5_isLaw, Cond.initialized RX5, Cond.code yX5_isLaw cX5_isLaw 2 (some .boolean), Cond.fieldLink RX5 29 "ShunLotsModel" "isMade" "[Z", Cond.methodLink RX5 56 yX5_isPlace, Cond.static yX5_isPlace, Cond.code yX5_isPlace cX5_isPlace 1 (some .boolean), Cond.methodLink RX5 52 yX5_in, Cond.static yX5_in, Cond.code yX5_in cX5_in 3 (some .boolean), Cond.methodLink RX5 119 yX5_shunning, Cond.instanceMethod yX5_shunning, Cond.selects RX5 yX5_shunning yX5_shunning, Cond.code yX5_shunning cX5_shunning 4 (some .long), Cond.methodLink RX5 113 yX5_sumOf, Cond.instanceMethod yX5_sumOf, Cond.selects RX5 yX5_sumOf yX5_sumOf, Cond.code yX5_sumOf cX5_sumOf 7 (some .long), Cond.fieldLink RX5 49 "ShunLotsModel" "sets" "I", Cond.fieldLink RX5 20 "ShunLotsModel" "law" "[J", Cond.methodLink RX5 100 yX5_sum]
def wsX5_shuns_r2 : List Cond := [Cond.instanceMethod yX5_sum, Cond.selects RX5 yX5_sum yX5_sum, Cond.code yX5_sum cX5_sum 5 (some .long)]
def wsX5_shuns : List Cond := .code yX5_shuns cX5_shuns 4 (some .int) :: ((wsX5_shuns_r1 ++ wsX5_shuns_r2) ++ wsX50)
def wsX5_rises : List Cond := .code yX5_rises cX5_rises 3 (some .int) :: ([.fieldLink RX5 45 "ShunLotsModel" "n" "I", .methodLink RX5 94 yX5_isLaw, .instanceMethod yX5_isLaw, .selects RX5 yX5_isLaw yX5_isLaw, .initialized RX5, .code yX5_isLaw cX5_isLaw 2 (some .boolean), .fieldLink RX5 29 "ShunLotsModel" "isMade" "[Z", .methodLink RX5 56 yX5_isPlace, .static yX5_isPlace, .code yX5_isPlace cX5_isPlace 1 (some .boolean), .methodLink RX5 52 yX5_in, .static yX5_in, .code yX5_in cX5_in 3 (some .boolean), .methodLink RX5 116 yX5_ofSize, .instanceMethod yX5_ofSize, .selects RX5 yX5_ofSize yX5_ofSize, .code yX5_ofSize cX5_ofSize 6 (some .long), .fieldLink RX5 49 "ShunLotsModel" "sets" "I", .fieldLink RX5 20 "ShunLotsModel" "law" "[J", .methodLink RX5 63 yX5_sizeOf, .static yX5_sizeOf, .code yX5_sizeOf cX5_sizeOf 3 (some .int)] ++ wsX50)
def wsX5_greatest : List Cond := .code yX5_greatest cX5_greatest 4 (some .int) :: ([.fieldLink RX5 49 "ShunLotsModel" "sets" "I", .fieldLink RX5 20 "ShunLotsModel" "law" "[J", .methodLink RX5 94 yX5_isLaw, .instanceMethod yX5_isLaw, .selects RX5 yX5_isLaw yX5_isLaw, .initialized RX5, .code yX5_isLaw cX5_isLaw 2 (some .boolean), .fieldLink RX5 29 "ShunLotsModel" "isMade" "[Z", .methodLink RX5 56 yX5_isPlace, .static yX5_isPlace, .code yX5_isPlace cX5_isPlace 1 (some .boolean), .methodLink RX5 52 yX5_in, .static yX5_in, .code yX5_in cX5_in 3 (some .boolean)] ++ wsX50)
def wsX5_greedy : List Cond := .code yX5_greedy cX5_greedy 7 (some .int) :: ([.fieldLink RX5 45 "ShunLotsModel" "n" "I", .fieldLink RX5 20 "ShunLotsModel" "law" "[J", .methodLink RX5 94 yX5_isLaw, .instanceMethod yX5_isLaw, .selects RX5 yX5_isLaw yX5_isLaw, .initialized RX5, .code yX5_isLaw cX5_isLaw 2 (some .boolean), .fieldLink RX5 29 "ShunLotsModel" "isMade" "[Z", .methodLink RX5 56 yX5_isPlace, .static yX5_isPlace, .code yX5_isPlace cX5_isPlace 1 (some .boolean), .methodLink RX5 52 yX5_in, .static yX5_in, .code yX5_in cX5_in 3 (some .boolean)] ++ wsX50)
def wsX5_same : List Cond := .code yX5_same cX5_same 4 (some .int) :: ([.fieldLink RX5 49 "ShunLotsModel" "sets" "I", .fieldLink RX5 20 "ShunLotsModel" "law" "[J", .methodLink RX5 94 yX5_isLaw, .instanceMethod yX5_isLaw, .selects RX5 yX5_isLaw yX5_isLaw, .initialized RX5, .code yX5_isLaw cX5_isLaw 2 (some .boolean), .fieldLink RX5 29 "ShunLotsModel" "isMade" "[Z", .methodLink RX5 56 yX5_isPlace, .static yX5_isPlace, .code yX5_isPlace cX5_isPlace 1 (some .boolean), .methodLink RX5 52 yX5_in, .static yX5_in, .code yX5_in cX5_in 3 (some .boolean)] ++ wsX50)
def wsX5_draw : List Cond := .code yX5_draw cX5_draw 13 (some .int) :: ([.fieldLink RX5 45 "ShunLotsModel" "n" "I", .constantLong RX5 122 (6364136223846793005), .constantLong RX5 124 (1442695040888963407), .methodLink RX5 94 yX5_isLaw, .instanceMethod yX5_isLaw, .selects RX5 yX5_isLaw yX5_isLaw, .initialized RX5, .code yX5_isLaw cX5_isLaw 2 (some .boolean), .fieldLink RX5 29 "ShunLotsModel" "isMade" "[Z", .methodLink RX5 56 yX5_isPlace, .static yX5_isPlace, .code yX5_isPlace cX5_isPlace 1 (some .boolean), .methodLink RX5 52 yX5_in, .static yX5_in, .code yX5_in cX5_in 3 (some .boolean), .methodLink RX5 113 yX5_sumOf, .instanceMethod yX5_sumOf, .selects RX5 yX5_sumOf yX5_sumOf, .code yX5_sumOf cX5_sumOf 7 (some .long), .fieldLink RX5 49 "ShunLotsModel" "sets" "I", .fieldLink RX5 20 "ShunLotsModel" "law" "[J"] ++ wsX50)
def wsJ9_abs_067f4 : List Cond := .code yJ9_abs_067f4 cJ9_abs_067f4 2 (some .long) :: ([])
def wsJ9_max_7cf53 : List Cond := .code yJ9_max_7cf53 cJ9_max_7cf53 2 (some .int) :: ([])
def wsJ9_min_7cf53 : List Cond := .code yJ9_min_7cf53 cJ9_min_7cf53 2 (some .int) :: ([])
def wsL_cell : List Cond := .code yL_cell cL_cell 2 (some .int) :: ([])
def wsL_law_r1 : List Cond := [Cond.classLink RL 7 RX4, Cond.instantiable RX4 8, Cond.initialized RX4, Cond.classLink RL 18 RX5, Cond.instantiable RX5 13, Cond.initialized RX5, Cond.constantLong RL 149 (4294967295), Cond.methodLink RL 9 yL_cell, Cond.static yL_cell, Cond.initialized RL, Cond.code yL_cell cL_cell 2 (some .int), Cond.methodLink RL 15 yX4_init, Cond.instanceMethod yX4_init, Cond.code yX4_init cX4_init 3 none, Cond.methodLink RX4 1 objectInit, Cond.instanceMethod objectInit, Cond.code objectInit ⟨#[0xb1]⟩ 1 none, Cond.methodLink RX4 9 Lib.Math.min.name, Cond.static Lib.Math.min.name, Cond.initialized "java/lang/Math", Cond.code Lib.Math.min.name Lib.Math.min.code 2 (some .int), Cond.methodLink RX4 15 Lib.Math.max.name, Cond.static Lib.Math.max.name, Cond.code Lib.Math.max.name Lib.Math.max.code 2 (some .int)]
def wsL_law_r2 : List Cond := [Cond.fieldLink RX4 18 "ShunLots" "things" "I", Cond.fieldLink RX4 22 "ShunLots" "sets" "I", Cond.classLink RX4 25 RX3, Cond.fieldLink RX4 27 "ShunLots" "tables" "[LShunLots$Table;", Cond.classLink RX4 31 RX0, Cond.fieldLink RX4 33 "ShunLots" "laws" "[LShunLots$Law;", Cond.instantiable RX3 2, Cond.initialized RX3, Cond.instantiable RX0 3, Cond.initialized RX0, Cond.classLink RX4 41 RX1, Cond.instantiable RX1 4, Cond.initialized RX1, Cond.fieldLink RX4 44 "ShunLots" "net" "LShunLots$Net;", Cond.arrayClass .long, Cond.fieldLink RX4 48 "ShunLots" "handShares" "[J", Cond.fieldLink RX4 52 "ShunLots" "draft" "[J", Cond.classLink RX4 55 RX2, Cond.instantiable RX2 3, Cond.initialized RX2, Cond.fieldLink RX4 58 "ShunLots" "square" "LShunLots$Square;", Cond.methodLink RX4 37 yX3_init, Cond.instanceMethod yX3_init, Cond.code yX3_init cX3_init 2 none]
def wsL_law_r3 : List Cond := [Cond.methodLink RX3 1 objectInit, Cond.fieldLink RX3 7 "ShunLots$Table" "width" "I", Cond.arrayClass .int, Cond.fieldLink RX3 13 "ShunLots$Table" "numbers" "[I", Cond.methodLink RX4 40 yX0_init, Cond.instanceMethod yX0_init, Cond.code yX0_init cX0_init 2 none, Cond.methodLink RX0 1 objectInit, Cond.fieldLink RX0 7 "ShunLots$Law" "shares" "[J", Cond.methodLink RX4 43 yX1_init, Cond.instanceMethod yX1_init, Cond.code yX1_init cX1_init 2 none, Cond.methodLink RX1 1 objectInit, Cond.fieldLink RX1 7 "ShunLots$Net" "edges" "I", Cond.fieldLink RX1 13 "ShunLots$Net" "starts" "[I", Cond.fieldLink RX1 17 "ShunLots$Net" "ends" "[I", Cond.fieldLink RX1 20 "ShunLots$Net" "weights" "[I", Cond.instanceMethod yX2_init, Cond.code yX2_init cX2_init 1 none, Cond.methodLink RX2 3 objectInit, Cond.fieldLink RX2 9 "ShunLots$Square" "cells" "[J", Cond.fieldLink RX2 15 "ShunLots$Square" "minors" "[J", Cond.methodLink RL 20 yX5_init, Cond.instanceMethod yX5_init]
def wsL_law_r4 : List Cond := [Cond.code yX5_init cX5_init 2 none, Cond.methodLink RX5 1 objectInit, Cond.fieldLink RX5 7 "ShunLotsModel" "table" "[I", Cond.fieldLink RX5 13 "ShunLotsModel" "thing" "[I", Cond.fieldLink RX5 16 "ShunLotsModel" "by" "[J", Cond.fieldLink RX5 20 "ShunLotsModel" "law" "[J", Cond.fieldLink RX5 23 "ShunLotsModel" "fresh" "[J", Cond.fieldLink RX5 26 "ShunLotsModel" "hand" "[J", Cond.arrayClass .boolean, Cond.fieldLink RX5 29 "ShunLotsModel" "isMade" "[Z", Cond.fieldLink RX5 33 "ShunLotsModel" "edgeA" "[I", Cond.fieldLink RX5 36 "ShunLotsModel" "edgeB" "[I", Cond.fieldLink RX5 39 "ShunLotsModel" "weight" "[I", Cond.fieldLink RX5 42 "ShunLotsModel" "group" "[I", Cond.fieldLink RX5 45 "ShunLotsModel" "n" "I", Cond.fieldLink RX5 49 "ShunLotsModel" "sets" "I", Cond.methodLink RL 21 yX4_entry, Cond.instanceMethod yX4_entry, Cond.selects RX4 yX4_entry yX4_entry, Cond.code yX4_entry cX4_entry 5 (some .boolean), Cond.methodLink RX4 62 yX4_isPlace, Cond.static yX4_isPlace, Cond.code yX4_isPlace cX4_isPlace 1 (some .boolean), Cond.methodLink RX4 69 yX4_isAmong]
def wsL_law_r5 : List Cond := [Cond.static yX4_isAmong, Cond.code yX4_isAmong cX4_isAmong 3 (some .boolean), Cond.methodLink RX4 66 yX4_isThing, Cond.instanceMethod yX4_isThing, Cond.selects RX4 yX4_isThing yX4_isThing, Cond.code yX4_isThing cX4_isThing 2 (some .boolean), Cond.methodLink RX4 73 yX3_put, Cond.instanceMethod yX3_put, Cond.selects RX3 yX3_put yX3_put, Cond.code yX3_put cX3_put 4 none, Cond.methodLink RL 25 yX5_entry, Cond.instanceMethod yX5_entry, Cond.selects RX5 yX5_entry yX5_entry, Cond.code yX5_entry cX5_entry 5 (some .boolean), Cond.methodLink RX5 56 yX5_isPlace, Cond.static yX5_isPlace, Cond.code yX5_isPlace cX5_isPlace 1 (some .boolean), Cond.methodLink RX5 52 yX5_in, Cond.static yX5_in, Cond.code yX5_in cX5_in 3 (some .boolean), Cond.methodLink RX5 60 yX5_isThing, Cond.instanceMethod yX5_isThing, Cond.selects RX5 yX5_isThing yX5_isThing, Cond.code yX5_isThing cX5_isThing 2 (some .boolean)]
def wsL_law_r6 : List Cond := [Cond.methodLink RL 26 yX4_told, Cond.instanceMethod yX4_told, Cond.selects RX4 yX4_told yX4_told, Cond.code yX4_told cX4_told 4 (some .int), Cond.methodLink RX4 77 yX3_at, Cond.instanceMethod yX3_at, Cond.selects RX3 yX3_at yX3_at, Cond.code yX3_at cX3_at 3 (some .int), Cond.methodLink RL 30 yX5_told, Cond.instanceMethod yX5_told, Cond.selects RX5 yX5_told yX5_told, Cond.code yX5_told cX5_told 4 (some .int), Cond.methodLink RL 31 yX4_worth, Cond.instanceMethod yX4_worth, Cond.selects RX4 yX4_worth yX4_worth, Cond.code yX4_worth cX4_worth 3 (some .long), Cond.methodLink RX4 80 yX4_isSet, Cond.instanceMethod yX4_isSet, Cond.selects RX4 yX4_isSet yX4_isSet, Cond.code yX4_isSet cX4_isSet 2 (some .boolean), Cond.methodLink RX4 83 yX3_worthOf, Cond.instanceMethod yX3_worthOf, Cond.selects RX3 yX3_worthOf yX3_worthOf, Cond.code yX3_worthOf cX3_worthOf 6 (some .long)]
def wsL_law_r7 : List Cond := [Cond.methodLink RX3 17 yJ6_bitCount_0f7a4, Cond.static yJ6_bitCount_0f7a4, Cond.initialized RJ6, Cond.code yJ6_bitCount_0f7a4 cJ6_bitCount_0f7a4 1 (some .int), Cond.constant RJ6 265 (1431655765), Cond.constant RJ6 266 (858993459), Cond.constant RJ6 267 (252645135), Cond.methodLink RX3 23 yX2_begin, Cond.instanceMethod yX2_begin, Cond.selects RX2 yX2_begin yX2_begin, Cond.code yX2_begin cX2_begin 3 none, Cond.methodLink RX2 18 Lib.Math.min.name, Cond.methodLink RX2 24 Lib.Math.max.name, Cond.fieldLink RX2 27 "ShunLots$Square" "side" "I", Cond.static yX4_has, Cond.code yX4_has cX4_has 2 (some .boolean), Cond.methodLink RX3 35 yX3_layRow, Cond.instanceMethod yX3_layRow, Cond.selects RX3 yX3_layRow yX3_layRow, Cond.code yX3_layRow cX3_layRow 7 none, Cond.methodLink RX3 47 yX3_at, Cond.methodLink RX3 39 yX2_add, Cond.instanceMethod yX2_add, Cond.selects RX2 yX2_add yX2_add]
def wsL_law_r8 : List Cond := [Cond.code yX2_add cX2_add 5 none, Cond.methodLink RX3 43 yX2_determinant, Cond.instanceMethod yX2_determinant, Cond.selects RX2 yX2_determinant yX2_determinant, Cond.code yX2_determinant cX2_determinant 3 (some .long), Cond.methodLink RX2 35 yX2_alongLastRow, Cond.instanceMethod yX2_alongLastRow, Cond.selects RX2 yX2_alongLastRow yX2_alongLastRow, Cond.code yX2_alongLastRow cX2_alongLastRow 9 (some .long), Cond.methodLink RX2 39 yJ6_bitCount_0f7a4, Cond.methodLink RL 35 yX5_worth, Cond.instanceMethod yX5_worth, Cond.selects RX5 yX5_worth yX5_worth, Cond.code yX5_worth cX5_worth 3 (some .long), Cond.methodLink RX5 67 yX5_isSet, Cond.instanceMethod yX5_isSet, Cond.selects RX5 yX5_isSet yX5_isSet, Cond.code yX5_isSet cX5_isSet 2 (some .boolean), Cond.methodLink RX5 70 yX5_determinant, Cond.instanceMethod yX5_determinant, Cond.selects RX5 yX5_determinant yX5_determinant, Cond.code yX5_determinant cX5_determinant 11 (some .long), Cond.methodLink RX5 63 yX5_sizeOf, Cond.static yX5_sizeOf]
def wsL_law_r9 : List Cond := [Cond.code yX5_sizeOf cX5_sizeOf 3 (some .int), Cond.methodLink RL 36 yX4_why, Cond.instanceMethod yX4_why, Cond.selects RX4 yX4_why yX4_why, Cond.code yX4_why cX4_why 2 (some .int), Cond.methodLink RX4 87 yX4_draftWorths, Cond.instanceMethod yX4_draftWorths, Cond.selects RX4 yX4_draftWorths yX4_draftWorths, Cond.code yX4_draftWorths cX4_draftWorths 3 (some .int), Cond.methodLink RL 40 yX5_why, Cond.instanceMethod yX5_why, Cond.selects RX5 yX5_why yX5_why, Cond.code yX5_why cX5_why 3 (some .int), Cond.methodLink RL 41 yX4_whole, Cond.instanceMethod yX4_whole, Cond.selects RX4 yX4_whole yX4_whole, Cond.code yX4_whole cX4_whole 2 (some .long), Cond.methodLink RL 45 yX5_whole, Cond.instanceMethod yX5_whole, Cond.selects RX5 yX5_whole yX5_whole, Cond.code yX5_whole cX5_whole 2 (some .long), Cond.methodLink RL 46 yX4_shun, Cond.instanceMethod yX4_shun, Cond.selects RX4 yX4_shun yX4_shun]
def wsL_law_r10 : List Cond := [Cond.code yX4_shun cX4_shun 3 (some .boolean), Cond.methodLink RX4 91 yX4_settle, Cond.instanceMethod yX4_settle, Cond.selects RX4 yX4_settle yX4_settle, Cond.code yX4_settle cX4_settle 5 (some .boolean), Cond.constantLong RX4 115 (4000000), Cond.methodLink RX4 186 yX4_commonDivisor, Cond.static yX4_commonDivisor, Cond.code yX4_commonDivisor cX4_commonDivisor 11 (some .long), Cond.methodLink RX4 190 yX0_become, Cond.instanceMethod yX0_become, Cond.selects RX0 yX0_become yX0_become, Cond.code yX0_become cX0_become 3 none, Cond.fieldLink RX0 13 "ShunLots$Law" "sum" "J", Cond.fieldLink RX0 17 "ShunLots$Law" "made" "Z", Cond.methodLink RL 50 yX5_shun, Cond.instanceMethod yX5_shun, Cond.selects RX5 yX5_shun yX5_shun, Cond.code yX5_shun cX5_shun 4 (some .boolean), Cond.methodLink RX5 80 yX5_why, Cond.methodLink RX5 83 yX5_clear, Cond.instanceMethod yX5_clear, Cond.selects RX5 yX5_clear yX5_clear, Cond.code yX5_clear cX5_clear 2 none]
def wsL_law_r11 : List Cond := [Cond.methodLink RX5 86 yX5_makes, Cond.instanceMethod yX5_makes, Cond.selects RX5 yX5_makes yX5_makes, Cond.code yX5_makes cX5_makes 5 (some .boolean), Cond.constantLong RX5 78 (4000000), Cond.methodLink RX5 74 yX5_common, Cond.static yX5_common, Cond.code yX5_common cX5_common 10 (some .long), Cond.methodLink RL 51 yX4_edge, Cond.instanceMethod yX4_edge, Cond.selects RX4 yX4_edge yX4_edge, Cond.code yX4_edge cX4_edge 5 (some .boolean), Cond.methodLink RX4 94 yX4_isPost, Cond.static yX4_isPost, Cond.code yX4_isPost cX4_isPost 1 (some .boolean), Cond.methodLink RX4 97 yX1_put, Cond.instanceMethod yX1_put, Cond.selects RX1 yX1_put yX1_put, Cond.code yX1_put cX1_put 5 none, Cond.methodLink RL 54 yX5_edge, Cond.instanceMethod yX5_edge, Cond.selects RX5 yX5_edge yX5_edge, Cond.code yX5_edge cX5_edge 5 (some .boolean), Cond.methodLink RL 55 yX4_all]
def wsL_law_r12 : List Cond := [Cond.instanceMethod yX4_all, Cond.selects RX4 yX4_all yX4_all, Cond.code yX4_all cX4_all 2 (some .long), Cond.methodLink RX4 100 yX4_isPosts, Cond.static yX4_isPosts, Cond.code yX4_isPosts cX4_isPosts 1 (some .boolean), Cond.methodLink RX4 103 yX1_sumOfTrees, Cond.instanceMethod yX1_sumOfTrees, Cond.selects RX1 yX1_sumOfTrees yX1_sumOfTrees, Cond.code yX1_sumOfTrees cX1_sumOfTrees 4 (some .long), Cond.methodLink RX1 23 yX2_begin, Cond.methodLink RX1 29 yX2_add, Cond.methodLink RX1 33 yX2_determinant, Cond.methodLink RL 58 yX5_all, Cond.instanceMethod yX5_all, Cond.selects RX5 yX5_all yX5_all, Cond.code yX5_all cX5_all 5 (some .long), Cond.methodLink RX5 89 yX5_treeOf, Cond.instanceMethod yX5_treeOf, Cond.selects RX5 yX5_treeOf yX5_treeOf, Cond.code yX5_treeOf cX5_treeOf 11 (some .long), Cond.methodLink RL 59 yX4_trees, Cond.instanceMethod yX4_trees, Cond.selects RX4 yX4_trees yX4_trees]
def wsL_law_r13 : List Cond := [Cond.code yX4_trees cX4_trees 4 (some .boolean), Cond.methodLink RX4 107 yX1_isTree, Cond.instanceMethod yX1_isTree, Cond.selects RX1 yX1_isTree yX1_isTree, Cond.code yX1_isTree cX1_isTree 5 (some .boolean), Cond.methodLink RX1 37 yJ6_bitCount_0f7a4, Cond.methodLink RX1 43 yX1_joinedOnce, Cond.instanceMethod yX1_joinedOnce, Cond.selects RX1 yX1_joinedOnce yX1_joinedOnce, Cond.code yX1_joinedOnce cX1_joinedOnce 6 (some .int), Cond.methodLink RX4 111 yX1_productOf, Cond.instanceMethod yX1_productOf, Cond.selects RX1 yX1_productOf yX1_productOf, Cond.code yX1_productOf cX1_productOf 5 (some .long), Cond.methodLink RL 62 yX5_trees, Cond.instanceMethod yX5_trees, Cond.selects RX5 yX5_trees yX5_trees, Cond.code yX5_trees cX5_trees 4 (some .boolean), Cond.methodLink RL 63 yX4_tell, Cond.instanceMethod yX4_tell, Cond.selects RX4 yX4_tell yX4_tell, Cond.code yX4_tell cX4_tell 3 (some .boolean), Cond.methodLink RL 66 yX5_tell, Cond.instanceMethod yX5_tell]
def wsL_law_r14 : List Cond := [Cond.selects RX5 yX5_tell yX5_tell, Cond.code yX5_tell cX5_tell 3 (some .boolean), Cond.constant RX5 93 (4000000), Cond.methodLink RL 67 yX4_hand, Cond.instanceMethod yX4_hand, Cond.selects RX4 yX4_hand yX4_hand, Cond.code yX4_hand cX4_hand 2 (some .boolean), Cond.methodLink RX4 117 arraycopyName, Cond.native arraycopyName, Cond.static arraycopyName, Cond.initialized "java/lang/System", Cond.methodLink RL 71 yX5_hand, Cond.instanceMethod yX5_hand, Cond.selects RX5 yX5_hand yX5_hand, Cond.code yX5_hand cX5_hand 3 (some .boolean), Cond.methodLink RL 72 yX4_given, Cond.instanceMethod yX4_given, Cond.selects RX4 yX4_given yX4_given, Cond.code yX4_given cX4_given 7 (some .boolean), Cond.fieldLink RX4 130 "ShunLots$Law" "shares" "[J", Cond.methodLink RX4 123 yX4_lawAt, Cond.instanceMethod yX4_lawAt, Cond.selects RX4 yX4_lawAt yX4_lawAt, Cond.code yX4_lawAt cX4_lawAt 2 (some (.object "ShunLots$Law"))]
def wsL_law_r15 : List Cond := [Cond.fieldLink RX4 180 "ShunLots$Law" "made" "Z", Cond.methodLink RX4 127 yX4_fits, Cond.static yX4_fits, Cond.code yX4_fits cX4_fits 3 (some .boolean), Cond.methodLink RL 75 yX5_given, Cond.instanceMethod yX5_given, Cond.selects RX5 yX5_given yX5_given, Cond.code yX5_given cX5_given 6 (some .boolean), Cond.methodLink RX5 94 yX5_isLaw, Cond.instanceMethod yX5_isLaw, Cond.selects RX5 yX5_isLaw yX5_isLaw, Cond.code yX5_isLaw cX5_isLaw 2 (some .boolean), Cond.methodLink RL 76 yX4_thin, Cond.instanceMethod yX4_thin, Cond.selects RX4 yX4_thin yX4_thin, Cond.code yX4_thin cX4_thin 6 (some .boolean), Cond.methodLink RX4 133 yX4_has, Cond.methodLink RX4 136 yX4_halveDraft, Cond.instanceMethod yX4_halveDraft, Cond.selects RX4 yX4_halveDraft yX4_halveDraft, Cond.code yX4_halveDraft cX4_halveDraft 3 none, Cond.constantLong RX4 184 (2), Cond.methodLink RL 80 yX5_thin, Cond.instanceMethod yX5_thin]
def wsL_law_r16 : List Cond := [Cond.selects RX5 yX5_thin yX5_thin, Cond.code yX5_thin cX5_thin 6 (some .boolean), Cond.methodLink RX5 97 yX5_canBe, Cond.instanceMethod yX5_canBe, Cond.selects RX5 yX5_canBe yX5_canBe, Cond.code yX5_canBe cX5_canBe 4 (some .boolean), Cond.methodLink RL 81 yX4_part, Cond.instanceMethod yX4_part, Cond.selects RX4 yX4_part yX4_part, Cond.code yX4_part cX4_part 6 (some .boolean), Cond.methodLink RL 84 yX5_part, Cond.instanceMethod yX5_part, Cond.selects RX5 yX5_part yX5_part, Cond.code yX5_part cX5_part 5 (some .boolean), Cond.methodLink RL 85 yX4_other, Cond.instanceMethod yX4_other, Cond.selects RX4 yX4_other yX4_other, Cond.code yX4_other cX4_other 6 (some .boolean), Cond.methodLink RL 88 yX5_other, Cond.instanceMethod yX5_other, Cond.selects RX5 yX5_other yX5_other, Cond.code yX5_other cX5_other 5 (some .boolean), Cond.methodLink RL 89 yX4_mix, Cond.instanceMethod yX4_mix]
def wsL_law_r17 : List Cond := [Cond.selects RX4 yX4_mix yX4_mix, Cond.code yX4_mix cX4_mix 13 (some .boolean), Cond.fieldLink RX4 139 "ShunLots$Law" "sum" "J", Cond.methodLink RL 93 yX5_mix, Cond.instanceMethod yX5_mix, Cond.selects RX5 yX5_mix yX5_mix, Cond.code yX5_mix cX5_mix 7 (some .boolean), Cond.methodLink RX5 100 yX5_sum, Cond.instanceMethod yX5_sum, Cond.selects RX5 yX5_sum yX5_sum, Cond.code yX5_sum cX5_sum 5 (some .long), Cond.methodLink RL 94 yX4_share, Cond.instanceMethod yX4_share, Cond.selects RX4 yX4_share yX4_share, Cond.code yX4_share cX4_share 4 (some .long), Cond.constantLong RX4 143 (-1), Cond.methodLink RL 97 yX5_share, Cond.instanceMethod yX5_share, Cond.selects RX5 yX5_share yX5_share, Cond.code yX5_share cX5_share 3 (some .long), Cond.constantLong RX5 104 (-1), Cond.methodLink RL 98 yX4_chance, Cond.instanceMethod yX4_chance, Cond.selects RX4 yX4_chance yX4_chance]
def wsL_law_r18 : List Cond := [Cond.code yX4_chance cX4_chance 5 (some .long), Cond.methodLink RX4 145 yX4_isWhat, Cond.static yX4_isWhat, Cond.code yX4_isWhat cX4_isWhat 1 (some .boolean), Cond.methodLink RX4 148 yX4_lowest, Cond.static yX4_lowest, Cond.code yX4_lowest cX4_lowest 7 (some .long), Cond.methodLink RX4 194 Lib.MathLoose.abs_long.x, Cond.static Lib.MathLoose.abs_long.x, Cond.code Lib.MathLoose.abs_long.x Lib.MathLoose.abs_long.code 2 (some .long), Cond.methodLink RL 102 yX5_chance, Cond.instanceMethod yX5_chance, Cond.selects RX5 yX5_chance yX5_chance, Cond.code yX5_chance cX5_chance 4 (some .long), Cond.methodLink RX5 106 yX5_isWhat, Cond.static yX5_isWhat, Cond.code yX5_isWhat cX5_isWhat 1 (some .boolean), Cond.methodLink RX5 109 yX5_fraction, Cond.static yX5_fraction, Cond.code yX5_fraction cX5_fraction 7 (some .long), Cond.methodLink RL 103 yX4_within, Cond.instanceMethod yX4_within, Cond.selects RX4 yX4_within yX4_within, Cond.code yX4_within cX4_within 5 (some .long)]
def wsL_law_r19 : List Cond := [Cond.methodLink RX4 152 yX0_sumFitting, Cond.instanceMethod yX0_sumFitting, Cond.selects RX0 yX0_sumFitting yX0_sumFitting, Cond.code yX0_sumFitting cX0_sumFitting 6 (some .long), Cond.methodLink RL 106 yX5_within, Cond.instanceMethod yX5_within, Cond.selects RX5 yX5_within yX5_within, Cond.code yX5_within cX5_within 4 (some .long), Cond.methodLink RX5 113 yX5_sumOf, Cond.instanceMethod yX5_sumOf, Cond.selects RX5 yX5_sumOf yX5_sumOf, Cond.code yX5_sumOf cX5_sumOf 7 (some .long), Cond.methodLink RL 107 yX4_out, Cond.instanceMethod yX4_out, Cond.selects RX4 yX4_out yX4_out, Cond.code yX4_out cX4_out 5 (some .long), Cond.methodLink RL 110 yX5_out, Cond.instanceMethod yX5_out, Cond.selects RX5 yX5_out yX5_out, Cond.code yX5_out cX5_out 4 (some .long), Cond.methodLink RL 111 yX4_size, Cond.instanceMethod yX4_size, Cond.selects RX4 yX4_size yX4_size, Cond.code yX4_size cX4_size 5 (some .long)]
def wsL_law_r20 : List Cond := [Cond.methodLink RX4 156 yX4_isCount, Cond.instanceMethod yX4_isCount, Cond.selects RX4 yX4_isCount yX4_isCount, Cond.code yX4_isCount cX4_isCount 2 (some .boolean), Cond.methodLink RX4 159 yX0_sumOfSize, Cond.instanceMethod yX0_sumOfSize, Cond.selects RX0 yX0_sumOfSize yX0_sumOfSize, Cond.code yX0_sumOfSize cX0_sumOfSize 5 (some .long), Cond.methodLink RX0 27 yJ6_bitCount_0f7a4, Cond.methodLink RL 114 yX5_size, Cond.instanceMethod yX5_size, Cond.selects RX5 yX5_size yX5_size, Cond.code yX5_size cX5_size 4 (some .long), Cond.methodLink RX5 116 yX5_ofSize, Cond.instanceMethod yX5_ofSize, Cond.selects RX5 yX5_ofSize yX5_ofSize, Cond.code yX5_ofSize cX5_ofSize 6 (some .long), Cond.methodLink RL 115 yX4_mean, Cond.instanceMethod yX4_mean, Cond.selects RX4 yX4_mean yX4_mean, Cond.code yX4_mean cX4_mean 4 (some .long), Cond.methodLink RX4 162 yX0_sumOfCounts, Cond.instanceMethod yX0_sumOfCounts, Cond.selects RX0 yX0_sumOfCounts yX0_sumOfCounts]
def wsL_law_r21 : List Cond := [Cond.code yX0_sumOfCounts cX0_sumOfCounts 4 (some .long), Cond.methodLink RL 118 yX5_mean, Cond.instanceMethod yX5_mean, Cond.selects RX5 yX5_mean yX5_mean, Cond.code yX5_mean cX5_mean 6 (some .long), Cond.methodLink RL 119 yX4_spread, Cond.instanceMethod yX4_spread, Cond.selects RX4 yX4_spread yX4_spread, Cond.code yX4_spread cX4_spread 8 (some .long), Cond.methodLink RX4 166 yX0_sumOfSquares, Cond.instanceMethod yX0_sumOfSquares, Cond.selects RX0 yX0_sumOfSquares yX0_sumOfSquares, Cond.code yX0_sumOfSquares cX0_sumOfSquares 6 (some .long), Cond.methodLink RL 122 yX5_spread, Cond.instanceMethod yX5_spread, Cond.selects RX5 yX5_spread yX5_spread, Cond.code yX5_spread cX5_spread 9 (some .long), Cond.methodLink RL 123 yX4_both, Cond.instanceMethod yX4_both, Cond.selects RX4 yX4_both yX4_both, Cond.code yX4_both cX4_both 6 (some .long), Cond.methodLink RX4 169 yX0_apartness, Cond.instanceMethod yX0_apartness, Cond.selects RX0 yX0_apartness yX0_apartness]
def wsL_law_r22 : List Cond := [Cond.code yX0_apartness cX0_apartness 3 (some .long), Cond.methodLink RX0 33 yX0_sumFitting, Cond.methodLink RL 127 yX5_both, Cond.instanceMethod yX5_both, Cond.selects RX5 yX5_both yX5_both, Cond.code yX5_both cX5_both 7 (some .long), Cond.methodLink RX5 119 yX5_shunning, Cond.instanceMethod yX5_shunning, Cond.selects RX5 yX5_shunning yX5_shunning, Cond.code yX5_shunning cX5_shunning 4 (some .long), Cond.methodLink RL 128 yX4_shuns, Cond.instanceMethod yX4_shuns, Cond.selects RX4 yX4_shuns yX4_shuns, Cond.code yX4_shuns cX4_shuns 5 (some .int), Cond.methodLink RL 131 yX5_shuns, Cond.instanceMethod yX5_shuns, Cond.selects RX5 yX5_shuns yX5_shuns, Cond.code yX5_shuns cX5_shuns 4 (some .int), Cond.methodLink RL 132 yX4_rises, Cond.instanceMethod yX4_rises, Cond.selects RX4 yX4_rises yX4_rises, Cond.code yX4_rises cX4_rises 9 (some .int), Cond.methodLink RL 135 yX5_rises, Cond.instanceMethod yX5_rises]
def wsL_law_r23 : List Cond := [Cond.selects RX5 yX5_rises yX5_rises, Cond.code yX5_rises cX5_rises 3 (some .int), Cond.methodLink RL 136 yX4_greatest, Cond.instanceMethod yX4_greatest, Cond.selects RX4 yX4_greatest yX4_greatest, Cond.code yX4_greatest cX4_greatest 5 (some .int), Cond.methodLink RL 139 yX5_greatest, Cond.instanceMethod yX5_greatest, Cond.selects RX5 yX5_greatest yX5_greatest, Cond.code yX5_greatest cX5_greatest 4 (some .int), Cond.methodLink RL 140 yX4_greedy, Cond.instanceMethod yX4_greedy, Cond.selects RX4 yX4_greedy yX4_greedy, Cond.code yX4_greedy cX4_greedy 6 (some .int), Cond.methodLink RX4 172 yX4_withBestThing, Cond.instanceMethod yX4_withBestThing, Cond.selects RX4 yX4_withBestThing yX4_withBestThing, Cond.code yX4_withBestThing cX4_withBestThing 6 (some .int), Cond.methodLink RL 144 yX5_greedy, Cond.instanceMethod yX5_greedy, Cond.selects RX5 yX5_greedy yX5_greedy, Cond.code yX5_greedy cX5_greedy 7 (some .int), Cond.methodLink RL 145 yX4_same, Cond.instanceMethod yX4_same]
def wsL_law_r24 : List Cond := [Cond.selects RX4 yX4_same yX4_same, Cond.code yX4_same cX4_same 6 (some .int), Cond.methodLink RL 148 yX5_same, Cond.instanceMethod yX5_same, Cond.selects RX5 yX5_same yX5_same, Cond.code yX5_same cX5_same 4 (some .int), Cond.methodLink RL 151 yX4_draw, Cond.instanceMethod yX4_draw, Cond.selects RX4 yX4_draw yX4_draw, Cond.code yX4_draw cX4_draw 15 (some .int), Cond.constantLong RX4 176 (6364136223846793005), Cond.constantLong RX4 178 (1442695040888963407), Cond.methodLink RL 155 yX5_draw, Cond.instanceMethod yX5_draw, Cond.selects RX5 yX5_draw yX5_draw, Cond.code yX5_draw cX5_draw 13 (some .int), Cond.constantLong RX5 122 (6364136223846793005), Cond.constantLong RX5 124 (1442695040888963407)]
def wsL_law : List Cond := (wsL_law_r1 ++ (wsL_law_r2 ++ (wsL_law_r3 ++ (wsL_law_r4 ++ (wsL_law_r5 ++ (wsL_law_r6 ++ (wsL_law_r7 ++ (wsL_law_r8 ++ (wsL_law_r9 ++ (wsL_law_r10 ++ (wsL_law_r11 ++ (wsL_law_r12 ++ (wsL_law_r13 ++ (wsL_law_r14 ++ (wsL_law_r15 ++ (wsL_law_r16 ++ (wsL_law_r17 ++ (wsL_law_r18 ++ (wsL_law_r19 ++ (wsL_law_r20 ++ (wsL_law_r21 ++ (wsL_law_r22 ++ (wsL_law_r23 ++ wsL_law_r24))))))))))))))))))))))) ++ wsX40 ++ wsX50 ++ wsX30 ++ wsX00 ++ wsX10 ++ wsX20 ++ ([] : List Cond)
theorem inlX0 : ∀ w ∈ wsX00, w ∈ wsL_law := fun _ h => List.mem_append_left _ (List.mem_append_left _ (List.mem_append_left _ (List.mem_append_right _ h)))
theorem inlX1 : ∀ w ∈ wsX10, w ∈ wsL_law := fun _ h => List.mem_append_left _ (List.mem_append_left _ (List.mem_append_right _ h))
theorem inlX2 : ∀ w ∈ wsX20, w ∈ wsL_law := fun _ h => List.mem_append_left _ (List.mem_append_right _ h)
theorem inlX3 : ∀ w ∈ wsX30, w ∈ wsL_law := fun _ h => List.mem_append_left _ (List.mem_append_left _ (List.mem_append_left _ (List.mem_append_left _ (List.mem_append_right _ h))))
theorem inlX4 : ∀ w ∈ wsX40, w ∈ wsL_law := fun _ h => List.mem_append_left _ (List.mem_append_left _ (List.mem_append_left _ (List.mem_append_left _ (List.mem_append_left _ (List.mem_append_left _ (List.mem_append_right _ h))))))
theorem inlX5 : ∀ w ∈ wsX50, w ∈ wsL_law := fun _ h => List.mem_append_left _ (List.mem_append_left _ (List.mem_append_left _ (List.mem_append_left _ (List.mem_append_left _ (List.mem_append_right _ h)))))
abbrev vwCl : List vw_C := [(RX0, TX0, 3), (RX1, TX1, 4), (RX2, TX2, 3), (RX3, TX3, 2), (RX4, TX4, 8), (RX5, TX5, 13)]
end
section
set_option maxRecDepth 20000 in
theorem wsL_in_1 : ∀ w ∈ wsL_law_r1, w ∈ lw_tbl := fun w h => (goodIn_p wsL_law_r1 [431, 37, 40, 43, 46] (by decide +kernel) (by decide +kernel) w h).1
set_option maxRecDepth 20000 in
theorem wsL_in_2 : ∀ w ∈ wsL_law_r2, w ∈ lw_tbl := fun w h => (goodIn_p wsL_law_r2 [54] (by decide +kernel) (by decide +kernel) w h).1
set_option maxRecDepth 20000 in
theorem wsL_in_3 : ∀ w ∈ wsL_law_r3, w ∈ lw_tbl := fun w h => (goodIn_p wsL_law_r3 [67, 87, 106] (by decide +kernel) (by decide +kernel) w h).1
set_option maxRecDepth 20000 in
theorem wsL_in_4 : ∀ w ∈ wsL_law_r4, w ∈ lw_tbl := fun w h => (goodIn_p wsL_law_r4 [436, 146, 149] (by decide +kernel) (by decide +kernel) w h).1
set_option maxRecDepth 20000 in
theorem wsL_in_5 : ∀ w ∈ wsL_law_r5, w ∈ lw_tbl := fun w h => (goodIn_p wsL_law_r5 [152, 156, 160, 482, 485, 488, 492] (by decide +kernel) (by decide +kernel) w h).1
set_option maxRecDepth 20000 in
theorem wsL_in_6 : ∀ w ∈ wsL_law_r6, w ∈ lw_tbl := fun w h => (goodIn_p wsL_law_r6 [164, 168, 496, 172, 176, 180] (by decide +kernel) (by decide +kernel) w h).1
set_option maxRecDepth 20000 in
theorem wsL_in_7 : ∀ w ∈ wsL_law_r7, w ∈ lw_tbl := fun w h => (goodIn_p wsL_law_r7 [183, 190, 195, 199] (by decide +kernel) (by decide +kernel) w h).1
set_option maxRecDepth 20000 in
theorem wsL_in_8 : ∀ w ∈ wsL_law_r8, w ∈ lw_tbl := fun w h => (goodIn_p wsL_law_r8 [204, 209, 213, 500, 504, 508] (by decide +kernel) (by decide +kernel) w h).1
set_option maxRecDepth 20000 in
theorem wsL_in_9 : ∀ w ∈ wsL_law_r9, w ∈ lw_tbl := fun w h => (goodIn_p wsL_law_r9 [511, 218, 222, 515, 226, 519] (by decide +kernel) (by decide +kernel) w h).1
set_option maxRecDepth 20000 in
theorem wsL_in_10 : ∀ w ∈ wsL_law_r10, w ∈ lw_tbl := fun w h => (goodIn_p wsL_law_r10 [230, 234, 237, 242, 523, 528] (by decide +kernel) (by decide +kernel) w h).1
set_option maxRecDepth 20000 in
theorem wsL_in_11 : ∀ w ∈ wsL_law_r11, w ∈ lw_tbl := fun w h => (goodIn_p wsL_law_r11 [532, 535, 246, 249, 253, 540] (by decide +kernel) (by decide +kernel) w h).1
set_option maxRecDepth 20000 in
theorem wsL_in_12 : ∀ w ∈ wsL_law_r12, w ∈ lw_tbl := fun w h => (goodIn_p wsL_law_r12 [257, 260, 264, 544, 548] (by decide +kernel) (by decide +kernel) w h).1
set_option maxRecDepth 20000 in
theorem wsL_in_13 : ∀ w ∈ wsL_law_r13, w ∈ lw_tbl := fun w h => (goodIn_p wsL_law_r13 [271, 275, 280, 285, 552, 289] (by decide +kernel) (by decide +kernel) w h).1
set_option maxRecDepth 20000 in
theorem wsL_in_14 : ∀ w ∈ wsL_law_r14, w ∈ lw_tbl := fun w h => (goodIn_p wsL_law_r14 [556, 293, 561, 300, 304] (by decide +kernel) (by decide +kernel) w h).1
set_option maxRecDepth 20000 in
theorem wsL_in_15 : ∀ w ∈ wsL_law_r15, w ∈ lw_tbl := fun w h => (goodIn_p wsL_law_r15 [307, 565, 569, 311, 316] (by decide +kernel) (by decide +kernel) w h).1
set_option maxRecDepth 20000 in
theorem wsL_in_16 : ∀ w ∈ wsL_law_r16, w ∈ lw_tbl := fun w h => (goodIn_p wsL_law_r16 [573, 577, 321, 581, 325, 585] (by decide +kernel) (by decide +kernel) w h).1
set_option maxRecDepth 20000 in
theorem wsL_in_17 : ∀ w ∈ wsL_law_r17, w ∈ lw_tbl := fun w h => (goodIn_p wsL_law_r17 [329, 589, 593, 333, 597] (by decide +kernel) (by decide +kernel) w h).1
set_option maxRecDepth 20000 in
theorem wsL_in_18 : ∀ w ∈ wsL_law_r18, w ∈ lw_tbl := fun w h => (goodIn_p wsL_law_r18 [338, 341, 344, 347, 602, 605, 608, 351] (by decide +kernel) (by decide +kernel) w h).1
set_option maxRecDepth 20000 in
theorem wsL_in_19 : ∀ w ∈ wsL_law_r19, w ∈ lw_tbl := fun w h => (goodIn_p wsL_law_r19 [355, 612, 616, 360, 620, 364] (by decide +kernel) (by decide +kernel) w h).1
set_option maxRecDepth 20000 in
theorem wsL_in_20 : ∀ w ∈ wsL_law_r20, w ∈ lw_tbl := fun w h => (goodIn_p wsL_law_r20 [368, 372, 624, 628, 377] (by decide +kernel) (by decide +kernel) w h).1
set_option maxRecDepth 20000 in
theorem wsL_in_21 : ∀ w ∈ wsL_law_r21, w ∈ lw_tbl := fun w h => (goodIn_p wsL_law_r21 [381, 632, 385, 389, 636, 393] (by decide +kernel) (by decide +kernel) w h).1
set_option maxRecDepth 20000 in
theorem wsL_in_22 : ∀ w ∈ wsL_law_r22, w ∈ lw_tbl := fun w h => (goodIn_p wsL_law_r22 [397, 640, 644, 402, 648, 406] (by decide +kernel) (by decide +kernel) w h).1
set_option maxRecDepth 20000 in
theorem wsL_in_23 : ∀ w ∈ wsL_law_r23, w ∈ lw_tbl := fun w h => (goodIn_p wsL_law_r23 [652, 410, 656, 414, 418, 660] (by decide +kernel) (by decide +kernel) w h).1
set_option maxRecDepth 20000 in
theorem wsL_in_24 : ∀ w ∈ wsL_law_r24, w ∈ lw_tbl := fun w h => (goodIn_p wsL_law_r24 [422, 664, 426, 668] (by decide +kernel) (by decide +kernel) w h).1
set_option maxRecDepth 20000 in
theorem inX4 : ∀ w ∈ wsX40, w ∈ lw_tbl := fun w h => (goodIn_p wsX40 [] (by decide +kernel) (by decide +kernel) w h).1
set_option maxRecDepth 20000 in
theorem inX5 : ∀ w ∈ wsX50, w ∈ lw_tbl := fun w h => (goodIn_p wsX50 [] (by decide +kernel) (by decide +kernel) w h).1
set_option maxRecDepth 20000 in
theorem inX3 : ∀ w ∈ wsX30, w ∈ lw_tbl := fun w h => (goodIn_p wsX30 [] (by decide +kernel) (by decide +kernel) w h).1
set_option maxRecDepth 20000 in
theorem inX0 : ∀ w ∈ wsX00, w ∈ lw_tbl := fun w h => (goodIn_p wsX00 [] (by decide +kernel) (by decide +kernel) w h).1
set_option maxRecDepth 20000 in
theorem inX1 : ∀ w ∈ wsX10, w ∈ lw_tbl := fun w h => (goodIn_p wsX10 [] (by decide +kernel) (by decide +kernel) w h).1
set_option maxRecDepth 20000 in
theorem inX2 : ∀ w ∈ wsX20, w ∈ lw_tbl := fun w h => (goodIn_p wsX20 [] (by decide +kernel) (by decide +kernel) w h).1
theorem wsL_law_in : ∀ w ∈ wsL_law, w ∈ lw_tbl := fun w => (fun h => (List.mem_append.mp h).elim (fun h => (List.mem_append.mp h).elim (fun h => (List.mem_append.mp h).elim (fun h => (List.mem_append.mp h).elim (fun h => (List.mem_append.mp h).elim (fun h => (List.mem_append.mp h).elim (fun h => (List.mem_append.mp h).elim (fun h => (List.mem_append.mp h).elim (wsL_in_1 w) (fun h => (List.mem_append.mp h).elim (wsL_in_2 w) (fun h => (List.mem_append.mp h).elim (wsL_in_3 w) (fun h => (List.mem_append.mp h).elim (wsL_in_4 w) (fun h => (List.mem_append.mp h).elim (wsL_in_5 w) (fun h => (List.mem_append.mp h).elim (wsL_in_6 w) (fun h => (List.mem_append.mp h).elim (wsL_in_7 w) (fun h => (List.mem_append.mp h).elim (wsL_in_8 w) (fun h => (List.mem_append.mp h).elim (wsL_in_9 w) (fun h => (List.mem_append.mp h).elim (wsL_in_10 w) (fun h => (List.mem_append.mp h).elim (wsL_in_11 w) (fun h => (List.mem_append.mp h).elim (wsL_in_12 w) (fun h => (List.mem_append.mp h).elim (wsL_in_13 w) (fun h => (List.mem_append.mp h).elim (wsL_in_14 w) (fun h => (List.mem_append.mp h).elim (wsL_in_15 w) (fun h => (List.mem_append.mp h).elim (wsL_in_16 w) (fun h => (List.mem_append.mp h).elim (wsL_in_17 w) (fun h => (List.mem_append.mp h).elim (wsL_in_18 w) (fun h => (List.mem_append.mp h).elim (wsL_in_19 w) (fun h => (List.mem_append.mp h).elim (wsL_in_20 w) (fun h => (List.mem_append.mp h).elim (wsL_in_21 w) (fun h => (List.mem_append.mp h).elim (wsL_in_22 w) (fun h => (List.mem_append.mp h).elim (wsL_in_23 w) (wsL_in_24 w)))))))))))))))))))))))) (inX4 w)) (inX5 w)) (inX3 w)) (inX0 w)) (inX1 w)) (inX2 w)) (fun h => absurd h List.not_mem_nil))
end
section
theorem dX0_init_0 : decode cX0_init 0 = .ok (.aload_n 0, 1) := by decide +kernel
theorem dX0_init_1 : decode cX0_init 1 = .ok (.invokespecial 1, 3) := by decide +kernel
theorem dX0_init_4 : decode cX0_init 4 = .ok (.aload_n 0, 1) := by decide +kernel
theorem dX0_init_5 : decode cX0_init 5 = .ok (.iload_n 1, 1) := by decide +kernel
theorem dX0_init_6 : decode cX0_init 6 = .ok (.newarray .long, 2) := by decide +kernel
theorem dX0_init_8 : decode cX0_init 8 = .ok (.putfield 7, 3) := by decide +kernel
theorem dX0_init_11 : decode cX0_init 11 = .ok (.return_, 1) := by decide +kernel
theorem dX0_become_0 : decode cX0_become 0 = .ok (.aload_n 0, 1) := by decide +kernel
theorem dX0_become_1 : decode cX0_become 1 = .ok (.lconst 0, 1) := by decide +kernel
theorem dX0_become_2 : decode cX0_become 2 = .ok (.putfield 13, 3) := by decide +kernel
theorem dX0_become_5 : decode cX0_become 5 = .ok (.iconst 0, 1) := by decide +kernel
theorem dX0_become_6 : decode cX0_become 6 = .ok (.istore_n 2, 1) := by decide +kernel
theorem dX0_become_7 : decode cX0_become 7 = .ok (.iload_n 2, 1) := by decide +kernel
theorem dX0_become_8 : decode cX0_become 8 = .ok (.aload_n 0, 1) := by decide +kernel
theorem dX0_become_9 : decode cX0_become 9 = .ok (.getfield 7, 3) := by decide +kernel
theorem dX0_become_12 : decode cX0_become 12 = .ok (.arraylength, 1) := by decide +kernel
theorem dX0_become_13 : decode cX0_become 13 = .ok (.if_icmp .ge 36, 3) := by decide +kernel
theorem dX0_become_16 : decode cX0_become 16 = .ok (.iload_n 2, 1) := by decide +kernel
theorem dX0_become_17 : decode cX0_become 17 = .ok (.aload_n 1, 1) := by decide +kernel
theorem dX0_become_18 : decode cX0_become 18 = .ok (.arraylength, 1) := by decide +kernel
theorem dX0_become_19 : decode cX0_become 19 = .ok (.if_icmp .ge 30, 3) := by decide +kernel
theorem dX0_become_22 : decode cX0_become 22 = .ok (.aload_n 0, 1) := by decide +kernel
theorem dX0_become_23 : decode cX0_become 23 = .ok (.getfield 7, 3) := by decide +kernel
theorem dX0_become_26 : decode cX0_become 26 = .ok (.iload_n 2, 1) := by decide +kernel
theorem dX0_become_27 : decode cX0_become 27 = .ok (.aload_n 1, 1) := by decide +kernel
theorem dX0_become_28 : decode cX0_become 28 = .ok (.iload_n 2, 1) := by decide +kernel
theorem dX0_become_29 : decode cX0_become 29 = .ok (.laload, 1) := by decide +kernel
theorem dX0_become_30 : decode cX0_become 30 = .ok (.lastore, 1) := by decide +kernel
theorem dX0_become_31 : decode cX0_become 31 = .ok (.aload_n 0, 1) := by decide +kernel
theorem dX0_become_32 : decode cX0_become 32 = .ok (.dup, 1) := by decide +kernel
theorem dX0_become_33 : decode cX0_become 33 = .ok (.getfield 13, 3) := by decide +kernel
theorem dX0_become_36 : decode cX0_become 36 = .ok (.aload_n 1, 1) := by decide +kernel
theorem dX0_become_37 : decode cX0_become 37 = .ok (.iload_n 2, 1) := by decide +kernel
theorem dX0_become_38 : decode cX0_become 38 = .ok (.laload, 1) := by decide +kernel
theorem dX0_become_39 : decode cX0_become 39 = .ok (.ladd, 1) := by decide +kernel
theorem dX0_become_40 : decode cX0_become 40 = .ok (.putfield 13, 3) := by decide +kernel
theorem dX0_become_43 : decode cX0_become 43 = .ok (.iinc 2 1, 3) := by decide +kernel
theorem dX0_become_46 : decode cX0_become 46 = .ok (.goto (-39), 3) := by decide +kernel
theorem dX0_become_49 : decode cX0_become 49 = .ok (.aload_n 0, 1) := by decide +kernel
theorem dX0_become_50 : decode cX0_become 50 = .ok (.iconst 1, 1) := by decide +kernel
theorem dX0_become_51 : decode cX0_become 51 = .ok (.putfield 17, 3) := by decide +kernel
theorem dX0_become_54 : decode cX0_become 54 = .ok (.return_, 1) := by decide +kernel
set_option maxRecDepth 20000 in
theorem ggX0_sumFitting_X4_fits : GoodIn wsX0_sumFitting wsX4_fits := goodIn_r _ [4] (by decide +kernel) (by decide +kernel)
set_option maxRecDepth 20000 in
theorem gX0_sumFitting_X4_fits_n21 : GoodIn wsX0_sumFitting (wsX4_fits) := ggX0_sumFitting_X4_fits
theorem dX0_sumFitting_0 : decode cX0_sumFitting 0 = .ok (.lconst 0, 1) := by decide +kernel
theorem dX0_sumFitting_1 : decode cX0_sumFitting 1 = .ok (.lstore_n 3, 1) := by decide +kernel
theorem dX0_sumFitting_2 : decode cX0_sumFitting 2 = .ok (.iconst 0, 1) := by decide +kernel
theorem dX0_sumFitting_3 : decode cX0_sumFitting 3 = .ok (.istore 5, 2) := by decide +kernel
theorem dX0_sumFitting_5 : decode cX0_sumFitting 5 = .ok (.iload 5, 2) := by decide +kernel
theorem dX0_sumFitting_7 : decode cX0_sumFitting 7 = .ok (.aload_n 0, 1) := by decide +kernel
theorem dX0_sumFitting_8 : decode cX0_sumFitting 8 = .ok (.getfield 7, 3) := by decide +kernel
theorem dX0_sumFitting_11 : decode cX0_sumFitting 11 = .ok (.arraylength, 1) := by decide +kernel
theorem dX0_sumFitting_12 : decode cX0_sumFitting 12 = .ok (.if_icmp .ge 29, 3) := by decide +kernel
theorem dX0_sumFitting_15 : decode cX0_sumFitting 15 = .ok (.iload 5, 2) := by decide +kernel
theorem dX0_sumFitting_17 : decode cX0_sumFitting 17 = .ok (.iload_n 1, 1) := by decide +kernel
theorem dX0_sumFitting_18 : decode cX0_sumFitting 18 = .ok (.iload_n 2, 1) := by decide +kernel
theorem dX0_sumFitting_19 : decode cX0_sumFitting 19 = .ok (.invokestatic 21, 3) := by decide +kernel
theorem dX0_sumFitting_22 : decode cX0_sumFitting 22 = .ok (.ifCond .eq 13, 3) := by decide +kernel
theorem dX0_sumFitting_25 : decode cX0_sumFitting 25 = .ok (.lload_n 3, 1) := by decide +kernel
theorem dX0_sumFitting_26 : decode cX0_sumFitting 26 = .ok (.aload_n 0, 1) := by decide +kernel
theorem dX0_sumFitting_27 : decode cX0_sumFitting 27 = .ok (.getfield 7, 3) := by decide +kernel
theorem dX0_sumFitting_30 : decode cX0_sumFitting 30 = .ok (.iload 5, 2) := by decide +kernel
theorem dX0_sumFitting_32 : decode cX0_sumFitting 32 = .ok (.laload, 1) := by decide +kernel
theorem dX0_sumFitting_33 : decode cX0_sumFitting 33 = .ok (.ladd, 1) := by decide +kernel
theorem dX0_sumFitting_34 : decode cX0_sumFitting 34 = .ok (.lstore_n 3, 1) := by decide +kernel
theorem dX0_sumFitting_35 : decode cX0_sumFitting 35 = .ok (.iinc 5 1, 3) := by decide +kernel
theorem dX0_sumFitting_38 : decode cX0_sumFitting 38 = .ok (.goto (-33), 3) := by decide +kernel
theorem dX0_sumFitting_41 : decode cX0_sumFitting 41 = .ok (.lload_n 3, 1) := by decide +kernel
theorem dX0_sumFitting_42 : decode cX0_sumFitting 42 = .ok (.lreturn, 1) := by decide +kernel
set_option maxRecDepth 20000 in
theorem ggX0_sumOfSize_J6_bitCount_0f7a4 : GoodIn wsX0_sumOfSize wsJ6_bitCount_0f7a4 := goodIn_r _ [5, 6, 7, 8] (by decide +kernel) (by decide +kernel)
set_option maxRecDepth 20000 in
theorem gX0_sumOfSize_J6_bitCount_0f7a4 : GoodIn wsX0_sumOfSize (va_wsS RX0 27 yJ6_bitCount_0f7a4 wsJ6_bitCount_0f7a4) := goodIn_app (goodIn_of _ (by decide +kernel)) ggX0_sumOfSize_J6_bitCount_0f7a4
theorem dX0_sumOfSize_0 : decode cX0_sumOfSize 0 = .ok (.lconst 0, 1) := by decide +kernel
theorem dX0_sumOfSize_1 : decode cX0_sumOfSize 1 = .ok (.lstore_n 2, 1) := by decide +kernel
theorem dX0_sumOfSize_2 : decode cX0_sumOfSize 2 = .ok (.iconst 0, 1) := by decide +kernel
theorem dX0_sumOfSize_3 : decode cX0_sumOfSize 3 = .ok (.istore 4, 2) := by decide +kernel
theorem dX0_sumOfSize_5 : decode cX0_sumOfSize 5 = .ok (.iload 4, 2) := by decide +kernel
theorem dX0_sumOfSize_7 : decode cX0_sumOfSize 7 = .ok (.aload_n 0, 1) := by decide +kernel
theorem dX0_sumOfSize_8 : decode cX0_sumOfSize 8 = .ok (.getfield 7, 3) := by decide +kernel
theorem dX0_sumOfSize_11 : decode cX0_sumOfSize 11 = .ok (.arraylength, 1) := by decide +kernel
theorem dX0_sumOfSize_12 : decode cX0_sumOfSize 12 = .ok (.if_icmp .ge 28, 3) := by decide +kernel
theorem dX0_sumOfSize_15 : decode cX0_sumOfSize 15 = .ok (.iload 4, 2) := by decide +kernel
theorem dX0_sumOfSize_17 : decode cX0_sumOfSize 17 = .ok (.invokestatic 27, 3) := by decide +kernel
theorem dX0_sumOfSize_20 : decode cX0_sumOfSize 20 = .ok (.iload_n 1, 1) := by decide +kernel
theorem dX0_sumOfSize_21 : decode cX0_sumOfSize 21 = .ok (.if_icmp .ne 13, 3) := by decide +kernel
theorem dX0_sumOfSize_24 : decode cX0_sumOfSize 24 = .ok (.lload_n 2, 1) := by decide +kernel
theorem dX0_sumOfSize_25 : decode cX0_sumOfSize 25 = .ok (.aload_n 0, 1) := by decide +kernel
theorem dX0_sumOfSize_26 : decode cX0_sumOfSize 26 = .ok (.getfield 7, 3) := by decide +kernel
theorem dX0_sumOfSize_29 : decode cX0_sumOfSize 29 = .ok (.iload 4, 2) := by decide +kernel
theorem dX0_sumOfSize_31 : decode cX0_sumOfSize 31 = .ok (.laload, 1) := by decide +kernel
theorem dX0_sumOfSize_32 : decode cX0_sumOfSize 32 = .ok (.ladd, 1) := by decide +kernel
theorem dX0_sumOfSize_33 : decode cX0_sumOfSize 33 = .ok (.lstore_n 2, 1) := by decide +kernel
theorem dX0_sumOfSize_34 : decode cX0_sumOfSize 34 = .ok (.iinc 4 1, 3) := by decide +kernel
theorem dX0_sumOfSize_37 : decode cX0_sumOfSize 37 = .ok (.goto (-32), 3) := by decide +kernel
theorem dX0_sumOfSize_40 : decode cX0_sumOfSize 40 = .ok (.lload_n 2, 1) := by decide +kernel
theorem dX0_sumOfSize_41 : decode cX0_sumOfSize 41 = .ok (.lreturn, 1) := by decide +kernel
set_option maxRecDepth 20000 in
theorem ggX0_sumOfCounts_J6_bitCount_0f7a4 : GoodIn wsX0_sumOfCounts wsJ6_bitCount_0f7a4 := goodIn_r _ [5, 6, 7, 8] (by decide +kernel) (by decide +kernel)
set_option maxRecDepth 20000 in
theorem gX0_sumOfCounts_J6_bitCount_0f7a4 : GoodIn wsX0_sumOfCounts (va_wsS RX0 27 yJ6_bitCount_0f7a4 wsJ6_bitCount_0f7a4) := goodIn_app (goodIn_of _ (by decide +kernel)) ggX0_sumOfCounts_J6_bitCount_0f7a4
theorem dX0_sumOfCounts_0 : decode cX0_sumOfCounts 0 = .ok (.lconst 0, 1) := by decide +kernel
theorem dX0_sumOfCounts_1 : decode cX0_sumOfCounts 1 = .ok (.lstore_n 1, 1) := by decide +kernel
theorem dX0_sumOfCounts_2 : decode cX0_sumOfCounts 2 = .ok (.iconst 0, 1) := by decide +kernel
theorem dX0_sumOfCounts_3 : decode cX0_sumOfCounts 3 = .ok (.istore_n 3, 1) := by decide +kernel
theorem dX0_sumOfCounts_4 : decode cX0_sumOfCounts 4 = .ok (.iload_n 3, 1) := by decide +kernel
theorem dX0_sumOfCounts_5 : decode cX0_sumOfCounts 5 = .ok (.aload_n 0, 1) := by decide +kernel
theorem dX0_sumOfCounts_6 : decode cX0_sumOfCounts 6 = .ok (.getfield 7, 3) := by decide +kernel
theorem dX0_sumOfCounts_9 : decode cX0_sumOfCounts 9 = .ok (.arraylength, 1) := by decide +kernel
theorem dX0_sumOfCounts_10 : decode cX0_sumOfCounts 10 = .ok (.if_icmp .ge 24, 3) := by decide +kernel
theorem dX0_sumOfCounts_13 : decode cX0_sumOfCounts 13 = .ok (.lload_n 1, 1) := by decide +kernel
theorem dX0_sumOfCounts_14 : decode cX0_sumOfCounts 14 = .ok (.iload_n 3, 1) := by decide +kernel
theorem dX0_sumOfCounts_15 : decode cX0_sumOfCounts 15 = .ok (.invokestatic 27, 3) := by decide +kernel
theorem dX0_sumOfCounts_18 : decode cX0_sumOfCounts 18 = .ok (.i2l, 1) := by decide +kernel
theorem dX0_sumOfCounts_19 : decode cX0_sumOfCounts 19 = .ok (.aload_n 0, 1) := by decide +kernel
theorem dX0_sumOfCounts_20 : decode cX0_sumOfCounts 20 = .ok (.getfield 7, 3) := by decide +kernel
theorem dX0_sumOfCounts_23 : decode cX0_sumOfCounts 23 = .ok (.iload_n 3, 1) := by decide +kernel
theorem dX0_sumOfCounts_24 : decode cX0_sumOfCounts 24 = .ok (.laload, 1) := by decide +kernel
theorem dX0_sumOfCounts_25 : decode cX0_sumOfCounts 25 = .ok (.lmul, 1) := by decide +kernel
theorem dX0_sumOfCounts_26 : decode cX0_sumOfCounts 26 = .ok (.ladd, 1) := by decide +kernel
theorem dX0_sumOfCounts_27 : decode cX0_sumOfCounts 27 = .ok (.lstore_n 1, 1) := by decide +kernel
theorem dX0_sumOfCounts_28 : decode cX0_sumOfCounts 28 = .ok (.iinc 3 1, 3) := by decide +kernel
theorem dX0_sumOfCounts_31 : decode cX0_sumOfCounts 31 = .ok (.goto (-27), 3) := by decide +kernel
theorem dX0_sumOfCounts_34 : decode cX0_sumOfCounts 34 = .ok (.lload_n 1, 1) := by decide +kernel
theorem dX0_sumOfCounts_35 : decode cX0_sumOfCounts 35 = .ok (.lreturn, 1) := by decide +kernel
set_option maxRecDepth 20000 in
theorem ggX0_sumOfSquares_J6_bitCount_0f7a4 : GoodIn wsX0_sumOfSquares wsJ6_bitCount_0f7a4 := goodIn_r _ [5, 6, 7, 8] (by decide +kernel) (by decide +kernel)
set_option maxRecDepth 20000 in
theorem gX0_sumOfSquares_J6_bitCount_0f7a4 : GoodIn wsX0_sumOfSquares (va_wsS RX0 27 yJ6_bitCount_0f7a4 wsJ6_bitCount_0f7a4) := goodIn_app (goodIn_of _ (by decide +kernel)) ggX0_sumOfSquares_J6_bitCount_0f7a4
theorem dX0_sumOfSquares_0 : decode cX0_sumOfSquares 0 = .ok (.lconst 0, 1) := by decide +kernel
theorem dX0_sumOfSquares_1 : decode cX0_sumOfSquares 1 = .ok (.lstore_n 1, 1) := by decide +kernel
theorem dX0_sumOfSquares_2 : decode cX0_sumOfSquares 2 = .ok (.iconst 0, 1) := by decide +kernel
theorem dX0_sumOfSquares_3 : decode cX0_sumOfSquares 3 = .ok (.istore_n 3, 1) := by decide +kernel
theorem dX0_sumOfSquares_4 : decode cX0_sumOfSquares 4 = .ok (.iload_n 3, 1) := by decide +kernel
theorem dX0_sumOfSquares_5 : decode cX0_sumOfSquares 5 = .ok (.aload_n 0, 1) := by decide +kernel
theorem dX0_sumOfSquares_6 : decode cX0_sumOfSquares 6 = .ok (.getfield 7, 3) := by decide +kernel
theorem dX0_sumOfSquares_9 : decode cX0_sumOfSquares 9 = .ok (.arraylength, 1) := by decide +kernel
theorem dX0_sumOfSquares_10 : decode cX0_sumOfSquares 10 = .ok (.if_icmp .ge 31, 3) := by decide +kernel
theorem dX0_sumOfSquares_13 : decode cX0_sumOfSquares 13 = .ok (.iload_n 3, 1) := by decide +kernel
theorem dX0_sumOfSquares_14 : decode cX0_sumOfSquares 14 = .ok (.invokestatic 27, 3) := by decide +kernel
theorem dX0_sumOfSquares_17 : decode cX0_sumOfSquares 17 = .ok (.i2l, 1) := by decide +kernel
theorem dX0_sumOfSquares_18 : decode cX0_sumOfSquares 18 = .ok (.lstore 4, 2) := by decide +kernel
theorem dX0_sumOfSquares_20 : decode cX0_sumOfSquares 20 = .ok (.lload_n 1, 1) := by decide +kernel
theorem dX0_sumOfSquares_21 : decode cX0_sumOfSquares 21 = .ok (.lload 4, 2) := by decide +kernel
theorem dX0_sumOfSquares_23 : decode cX0_sumOfSquares 23 = .ok (.lload 4, 2) := by decide +kernel
theorem dX0_sumOfSquares_25 : decode cX0_sumOfSquares 25 = .ok (.lmul, 1) := by decide +kernel
theorem dX0_sumOfSquares_26 : decode cX0_sumOfSquares 26 = .ok (.aload_n 0, 1) := by decide +kernel
theorem dX0_sumOfSquares_27 : decode cX0_sumOfSquares 27 = .ok (.getfield 7, 3) := by decide +kernel
theorem dX0_sumOfSquares_30 : decode cX0_sumOfSquares 30 = .ok (.iload_n 3, 1) := by decide +kernel
theorem dX0_sumOfSquares_31 : decode cX0_sumOfSquares 31 = .ok (.laload, 1) := by decide +kernel
theorem dX0_sumOfSquares_32 : decode cX0_sumOfSquares 32 = .ok (.lmul, 1) := by decide +kernel
theorem dX0_sumOfSquares_33 : decode cX0_sumOfSquares 33 = .ok (.ladd, 1) := by decide +kernel
theorem dX0_sumOfSquares_34 : decode cX0_sumOfSquares 34 = .ok (.lstore_n 1, 1) := by decide +kernel
theorem dX0_sumOfSquares_35 : decode cX0_sumOfSquares 35 = .ok (.iinc 3 1, 3) := by decide +kernel
theorem dX0_sumOfSquares_38 : decode cX0_sumOfSquares 38 = .ok (.goto (-34), 3) := by decide +kernel
theorem dX0_sumOfSquares_41 : decode cX0_sumOfSquares 41 = .ok (.lload_n 1, 1) := by decide +kernel
theorem dX0_sumOfSquares_42 : decode cX0_sumOfSquares 42 = .ok (.lreturn, 1) := by decide +kernel
set_option maxRecDepth 20000 in
theorem ggX0_apartness_X0_sumFitting : GoodIn wsX0_apartness wsX0_sumFitting := goodIn_r _ [6, 7, 8, 9, 10, 11, 12, 13] (by decide +kernel) (by decide +kernel)
set_option maxRecDepth 20000 in
theorem gX0_apartness_X0_sumFitting : GoodIn wsX0_apartness (wsV RX0 33 RX0 yX0_sumFitting wsX0_sumFitting) := goodIn_app (goodIn_of _ (by decide +kernel)) ggX0_apartness_X0_sumFitting
theorem dX0_apartness_0 : decode cX0_apartness 0 = .ok (.aload_n 0, 1) := by decide +kernel
theorem dX0_apartness_1 : decode cX0_apartness 1 = .ok (.iload_n 1, 1) := by decide +kernel
theorem dX0_apartness_2 : decode cX0_apartness 2 = .ok (.iconst 0, 1) := by decide +kernel
theorem dX0_apartness_3 : decode cX0_apartness 3 = .ok (.invokevirtual 33, 3) := by decide +kernel
theorem dX0_apartness_6 : decode cX0_apartness 6 = .ok (.aload_n 0, 1) := by decide +kernel
theorem dX0_apartness_7 : decode cX0_apartness 7 = .ok (.iload_n 2, 1) := by decide +kernel
theorem dX0_apartness_8 : decode cX0_apartness 8 = .ok (.iconst 0, 1) := by decide +kernel
theorem dX0_apartness_9 : decode cX0_apartness 9 = .ok (.invokevirtual 33, 3) := by decide +kernel
theorem dX0_apartness_12 : decode cX0_apartness 12 = .ok (.lmul, 1) := by decide +kernel
theorem dX0_apartness_13 : decode cX0_apartness 13 = .ok (.aload_n 0, 1) := by decide +kernel
theorem dX0_apartness_14 : decode cX0_apartness 14 = .ok (.iload_n 1, 1) := by decide +kernel
theorem dX0_apartness_15 : decode cX0_apartness 15 = .ok (.iload_n 2, 1) := by decide +kernel
theorem dX0_apartness_16 : decode cX0_apartness 16 = .ok (.ior, 1) := by decide +kernel
theorem dX0_apartness_17 : decode cX0_apartness 17 = .ok (.iconst 0, 1) := by decide +kernel
theorem dX0_apartness_18 : decode cX0_apartness 18 = .ok (.invokevirtual 33, 3) := by decide +kernel
theorem dX0_apartness_21 : decode cX0_apartness 21 = .ok (.aload_n 0, 1) := by decide +kernel
theorem dX0_apartness_22 : decode cX0_apartness 22 = .ok (.getfield 13, 3) := by decide +kernel
theorem dX0_apartness_25 : decode cX0_apartness 25 = .ok (.lmul, 1) := by decide +kernel
theorem dX0_apartness_26 : decode cX0_apartness 26 = .ok (.lsub, 1) := by decide +kernel
theorem dX0_apartness_27 : decode cX0_apartness 27 = .ok (.lreturn, 1) := by decide +kernel
theorem dX1_init_0 : decode cX1_init 0 = .ok (.aload_n 0, 1) := by decide +kernel
theorem dX1_init_1 : decode cX1_init 1 = .ok (.invokespecial 1, 3) := by decide +kernel
theorem dX1_init_4 : decode cX1_init 4 = .ok (.aload_n 0, 1) := by decide +kernel
theorem dX1_init_5 : decode cX1_init 5 = .ok (.iload_n 1, 1) := by decide +kernel
theorem dX1_init_6 : decode cX1_init 6 = .ok (.putfield 7, 3) := by decide +kernel
theorem dX1_init_9 : decode cX1_init 9 = .ok (.aload_n 0, 1) := by decide +kernel
theorem dX1_init_10 : decode cX1_init 10 = .ok (.iload_n 1, 1) := by decide +kernel
theorem dX1_init_11 : decode cX1_init 11 = .ok (.newarray .int, 2) := by decide +kernel
theorem dX1_init_13 : decode cX1_init 13 = .ok (.putfield 13, 3) := by decide +kernel
theorem dX1_init_16 : decode cX1_init 16 = .ok (.aload_n 0, 1) := by decide +kernel
theorem dX1_init_17 : decode cX1_init 17 = .ok (.iload_n 1, 1) := by decide +kernel
theorem dX1_init_18 : decode cX1_init 18 = .ok (.newarray .int, 2) := by decide +kernel
theorem dX1_init_20 : decode cX1_init 20 = .ok (.putfield 17, 3) := by decide +kernel
theorem dX1_init_23 : decode cX1_init 23 = .ok (.aload_n 0, 1) := by decide +kernel
theorem dX1_init_24 : decode cX1_init 24 = .ok (.iload_n 1, 1) := by decide +kernel
theorem dX1_init_25 : decode cX1_init 25 = .ok (.newarray .int, 2) := by decide +kernel
theorem dX1_init_27 : decode cX1_init 27 = .ok (.putfield 20, 3) := by decide +kernel
theorem dX1_init_30 : decode cX1_init 30 = .ok (.return_, 1) := by decide +kernel
theorem dX1_put_0 : decode cX1_put 0 = .ok (.aload_n 0, 1) := by decide +kernel
theorem dX1_put_1 : decode cX1_put 1 = .ok (.getfield 13, 3) := by decide +kernel
theorem dX1_put_4 : decode cX1_put 4 = .ok (.iload_n 1, 1) := by decide +kernel
theorem dX1_put_5 : decode cX1_put 5 = .ok (.iload_n 2, 1) := by decide +kernel
theorem dX1_put_6 : decode cX1_put 6 = .ok (.iastore, 1) := by decide +kernel
theorem dX1_put_7 : decode cX1_put 7 = .ok (.aload_n 0, 1) := by decide +kernel
theorem dX1_put_8 : decode cX1_put 8 = .ok (.getfield 17, 3) := by decide +kernel
theorem dX1_put_11 : decode cX1_put 11 = .ok (.iload_n 1, 1) := by decide +kernel
theorem dX1_put_12 : decode cX1_put 12 = .ok (.iload_n 3, 1) := by decide +kernel
theorem dX1_put_13 : decode cX1_put 13 = .ok (.iastore, 1) := by decide +kernel
theorem dX1_put_14 : decode cX1_put 14 = .ok (.aload_n 0, 1) := by decide +kernel
theorem dX1_put_15 : decode cX1_put 15 = .ok (.getfield 20, 3) := by decide +kernel
theorem dX1_put_18 : decode cX1_put 18 = .ok (.iload_n 1, 1) := by decide +kernel
theorem dX1_put_19 : decode cX1_put 19 = .ok (.iload 4, 2) := by decide +kernel
theorem dX1_put_21 : decode cX1_put 21 = .ok (.iastore, 1) := by decide +kernel
theorem dX1_put_22 : decode cX1_put 22 = .ok (.return_, 1) := by decide +kernel
set_option maxRecDepth 20000 in
theorem ggX1_sumOfTrees_X2_begin : GoodIn wsX1_sumOfTrees wsX2_begin := goodIn_r _ [9, 10, 11, 12, 13, 14, 15, 16, 17, 18, 46, 47, 48] (by decide +kernel) (by decide +kernel)
set_option maxRecDepth 20000 in
theorem gX1_sumOfTrees_X2_begin : GoodIn wsX1_sumOfTrees (wsV RX1 23 RX2 yX2_begin wsX2_begin) := goodIn_app (goodIn_of _ (by decide +kernel)) ggX1_sumOfTrees_X2_begin
set_option maxRecDepth 20000 in
theorem ggX1_sumOfTrees_X2_add : GoodIn wsX1_sumOfTrees wsX2_add := goodIn_r _ [22, 17, 18, 23, 24, 25, 46, 47, 48] (by decide +kernel) (by decide +kernel)
set_option maxRecDepth 20000 in
theorem gX1_sumOfTrees_X2_add : GoodIn wsX1_sumOfTrees (wsV RX1 29 RX2 yX2_add wsX2_add) := goodIn_app (goodIn_of _ (by decide +kernel)) ggX1_sumOfTrees_X2_add
set_option maxRecDepth 20000 in
theorem ggX1_sumOfTrees_X2_determinant : GoodIn wsX1_sumOfTrees wsX2_determinant := goodIn_r _ [29, 30, 17, 31, 32, 33, 8, 34, 18, 35, 36, 37, 38, 39, 40, 41, 46, 47, 48] (by decide +kernel) (by decide +kernel)
set_option maxRecDepth 20000 in
theorem gX1_sumOfTrees_X2_determinant : GoodIn wsX1_sumOfTrees (wsV RX1 33 RX2 yX2_determinant wsX2_determinant) := goodIn_app (goodIn_of _ (by decide +kernel)) ggX1_sumOfTrees_X2_determinant
theorem dX1_sumOfTrees_0 : decode cX1_sumOfTrees 0 = .ok (.aload_n 2, 1) := by decide +kernel
theorem dX1_sumOfTrees_1 : decode cX1_sumOfTrees 1 = .ok (.iload_n 1, 1) := by decide +kernel
theorem dX1_sumOfTrees_2 : decode cX1_sumOfTrees 2 = .ok (.iconst 1, 1) := by decide +kernel
theorem dX1_sumOfTrees_3 : decode cX1_sumOfTrees 3 = .ok (.isub, 1) := by decide +kernel
theorem dX1_sumOfTrees_4 : decode cX1_sumOfTrees 4 = .ok (.invokevirtual 23, 3) := by decide +kernel
theorem dX1_sumOfTrees_7 : decode cX1_sumOfTrees 7 = .ok (.iconst 0, 1) := by decide +kernel
theorem dX1_sumOfTrees_8 : decode cX1_sumOfTrees 8 = .ok (.istore_n 3, 1) := by decide +kernel
theorem dX1_sumOfTrees_9 : decode cX1_sumOfTrees 9 = .ok (.iload_n 3, 1) := by decide +kernel
theorem dX1_sumOfTrees_10 : decode cX1_sumOfTrees 10 = .ok (.aload_n 0, 1) := by decide +kernel
theorem dX1_sumOfTrees_11 : decode cX1_sumOfTrees 11 = .ok (.getfield 7, 3) := by decide +kernel
theorem dX1_sumOfTrees_14 : decode cX1_sumOfTrees 14 = .ok (.if_icmp .ge 123, 3) := by decide +kernel
theorem dX1_sumOfTrees_17 : decode cX1_sumOfTrees 17 = .ok (.aload_n 0, 1) := by decide +kernel
theorem dX1_sumOfTrees_18 : decode cX1_sumOfTrees 18 = .ok (.getfield 13, 3) := by decide +kernel
theorem dX1_sumOfTrees_21 : decode cX1_sumOfTrees 21 = .ok (.iload_n 3, 1) := by decide +kernel
theorem dX1_sumOfTrees_22 : decode cX1_sumOfTrees 22 = .ok (.iaload, 1) := by decide +kernel
theorem dX1_sumOfTrees_23 : decode cX1_sumOfTrees 23 = .ok (.iload_n 1, 1) := by decide +kernel
theorem dX1_sumOfTrees_24 : decode cX1_sumOfTrees 24 = .ok (.if_icmp .ge 107, 3) := by decide +kernel
theorem dX1_sumOfTrees_27 : decode cX1_sumOfTrees 27 = .ok (.aload_n 0, 1) := by decide +kernel
theorem dX1_sumOfTrees_28 : decode cX1_sumOfTrees 28 = .ok (.getfield 17, 3) := by decide +kernel
theorem dX1_sumOfTrees_31 : decode cX1_sumOfTrees 31 = .ok (.iload_n 3, 1) := by decide +kernel
theorem dX1_sumOfTrees_32 : decode cX1_sumOfTrees 32 = .ok (.iaload, 1) := by decide +kernel
theorem dX1_sumOfTrees_33 : decode cX1_sumOfTrees 33 = .ok (.iload_n 1, 1) := by decide +kernel
theorem dX1_sumOfTrees_34 : decode cX1_sumOfTrees 34 = .ok (.if_icmp .ge 97, 3) := by decide +kernel
theorem dX1_sumOfTrees_37 : decode cX1_sumOfTrees 37 = .ok (.aload_n 2, 1) := by decide +kernel
theorem dX1_sumOfTrees_38 : decode cX1_sumOfTrees 38 = .ok (.aload_n 0, 1) := by decide +kernel
theorem dX1_sumOfTrees_39 : decode cX1_sumOfTrees 39 = .ok (.getfield 13, 3) := by decide +kernel
theorem dX1_sumOfTrees_42 : decode cX1_sumOfTrees 42 = .ok (.iload_n 3, 1) := by decide +kernel
theorem dX1_sumOfTrees_43 : decode cX1_sumOfTrees 43 = .ok (.iaload, 1) := by decide +kernel
theorem dX1_sumOfTrees_44 : decode cX1_sumOfTrees 44 = .ok (.aload_n 0, 1) := by decide +kernel
theorem dX1_sumOfTrees_45 : decode cX1_sumOfTrees 45 = .ok (.getfield 13, 3) := by decide +kernel
theorem dX1_sumOfTrees_48 : decode cX1_sumOfTrees 48 = .ok (.iload_n 3, 1) := by decide +kernel
theorem dX1_sumOfTrees_49 : decode cX1_sumOfTrees 49 = .ok (.iaload, 1) := by decide +kernel
theorem dX1_sumOfTrees_50 : decode cX1_sumOfTrees 50 = .ok (.aload_n 0, 1) := by decide +kernel
theorem dX1_sumOfTrees_51 : decode cX1_sumOfTrees 51 = .ok (.getfield 20, 3) := by decide +kernel
theorem dX1_sumOfTrees_54 : decode cX1_sumOfTrees 54 = .ok (.iload_n 3, 1) := by decide +kernel
theorem dX1_sumOfTrees_55 : decode cX1_sumOfTrees 55 = .ok (.iaload, 1) := by decide +kernel
theorem dX1_sumOfTrees_56 : decode cX1_sumOfTrees 56 = .ok (.i2l, 1) := by decide +kernel
theorem dX1_sumOfTrees_57 : decode cX1_sumOfTrees 57 = .ok (.invokevirtual 29, 3) := by decide +kernel
theorem dX1_sumOfTrees_60 : decode cX1_sumOfTrees 60 = .ok (.aload_n 2, 1) := by decide +kernel
theorem dX1_sumOfTrees_61 : decode cX1_sumOfTrees 61 = .ok (.aload_n 0, 1) := by decide +kernel
theorem dX1_sumOfTrees_62 : decode cX1_sumOfTrees 62 = .ok (.getfield 17, 3) := by decide +kernel
theorem dX1_sumOfTrees_65 : decode cX1_sumOfTrees 65 = .ok (.iload_n 3, 1) := by decide +kernel
theorem dX1_sumOfTrees_66 : decode cX1_sumOfTrees 66 = .ok (.iaload, 1) := by decide +kernel
theorem dX1_sumOfTrees_67 : decode cX1_sumOfTrees 67 = .ok (.aload_n 0, 1) := by decide +kernel
theorem dX1_sumOfTrees_68 : decode cX1_sumOfTrees 68 = .ok (.getfield 17, 3) := by decide +kernel
theorem dX1_sumOfTrees_71 : decode cX1_sumOfTrees 71 = .ok (.iload_n 3, 1) := by decide +kernel
theorem dX1_sumOfTrees_72 : decode cX1_sumOfTrees 72 = .ok (.iaload, 1) := by decide +kernel
theorem dX1_sumOfTrees_73 : decode cX1_sumOfTrees 73 = .ok (.aload_n 0, 1) := by decide +kernel
theorem dX1_sumOfTrees_74 : decode cX1_sumOfTrees 74 = .ok (.getfield 20, 3) := by decide +kernel
theorem dX1_sumOfTrees_77 : decode cX1_sumOfTrees 77 = .ok (.iload_n 3, 1) := by decide +kernel
theorem dX1_sumOfTrees_78 : decode cX1_sumOfTrees 78 = .ok (.iaload, 1) := by decide +kernel
theorem dX1_sumOfTrees_79 : decode cX1_sumOfTrees 79 = .ok (.i2l, 1) := by decide +kernel
theorem dX1_sumOfTrees_80 : decode cX1_sumOfTrees 80 = .ok (.invokevirtual 29, 3) := by decide +kernel
theorem dX1_sumOfTrees_83 : decode cX1_sumOfTrees 83 = .ok (.aload_n 2, 1) := by decide +kernel
theorem dX1_sumOfTrees_84 : decode cX1_sumOfTrees 84 = .ok (.aload_n 0, 1) := by decide +kernel
theorem dX1_sumOfTrees_85 : decode cX1_sumOfTrees 85 = .ok (.getfield 13, 3) := by decide +kernel
theorem dX1_sumOfTrees_88 : decode cX1_sumOfTrees 88 = .ok (.iload_n 3, 1) := by decide +kernel
theorem dX1_sumOfTrees_89 : decode cX1_sumOfTrees 89 = .ok (.iaload, 1) := by decide +kernel
theorem dX1_sumOfTrees_90 : decode cX1_sumOfTrees 90 = .ok (.aload_n 0, 1) := by decide +kernel
theorem dX1_sumOfTrees_91 : decode cX1_sumOfTrees 91 = .ok (.getfield 17, 3) := by decide +kernel
theorem dX1_sumOfTrees_94 : decode cX1_sumOfTrees 94 = .ok (.iload_n 3, 1) := by decide +kernel
theorem dX1_sumOfTrees_95 : decode cX1_sumOfTrees 95 = .ok (.iaload, 1) := by decide +kernel
theorem dX1_sumOfTrees_96 : decode cX1_sumOfTrees 96 = .ok (.aload_n 0, 1) := by decide +kernel
theorem dX1_sumOfTrees_97 : decode cX1_sumOfTrees 97 = .ok (.getfield 20, 3) := by decide +kernel
theorem dX1_sumOfTrees_100 : decode cX1_sumOfTrees 100 = .ok (.iload_n 3, 1) := by decide +kernel
theorem dX1_sumOfTrees_101 : decode cX1_sumOfTrees 101 = .ok (.iaload, 1) := by decide +kernel
theorem dX1_sumOfTrees_102 : decode cX1_sumOfTrees 102 = .ok (.ineg, 1) := by decide +kernel
theorem dX1_sumOfTrees_103 : decode cX1_sumOfTrees 103 = .ok (.i2l, 1) := by decide +kernel
theorem dX1_sumOfTrees_104 : decode cX1_sumOfTrees 104 = .ok (.invokevirtual 29, 3) := by decide +kernel
theorem dX1_sumOfTrees_107 : decode cX1_sumOfTrees 107 = .ok (.aload_n 2, 1) := by decide +kernel
theorem dX1_sumOfTrees_108 : decode cX1_sumOfTrees 108 = .ok (.aload_n 0, 1) := by decide +kernel
theorem dX1_sumOfTrees_109 : decode cX1_sumOfTrees 109 = .ok (.getfield 17, 3) := by decide +kernel
theorem dX1_sumOfTrees_112 : decode cX1_sumOfTrees 112 = .ok (.iload_n 3, 1) := by decide +kernel
theorem dX1_sumOfTrees_113 : decode cX1_sumOfTrees 113 = .ok (.iaload, 1) := by decide +kernel
theorem dX1_sumOfTrees_114 : decode cX1_sumOfTrees 114 = .ok (.aload_n 0, 1) := by decide +kernel
theorem dX1_sumOfTrees_115 : decode cX1_sumOfTrees 115 = .ok (.getfield 13, 3) := by decide +kernel
theorem dX1_sumOfTrees_118 : decode cX1_sumOfTrees 118 = .ok (.iload_n 3, 1) := by decide +kernel
theorem dX1_sumOfTrees_119 : decode cX1_sumOfTrees 119 = .ok (.iaload, 1) := by decide +kernel
theorem dX1_sumOfTrees_120 : decode cX1_sumOfTrees 120 = .ok (.aload_n 0, 1) := by decide +kernel
theorem dX1_sumOfTrees_121 : decode cX1_sumOfTrees 121 = .ok (.getfield 20, 3) := by decide +kernel
theorem dX1_sumOfTrees_124 : decode cX1_sumOfTrees 124 = .ok (.iload_n 3, 1) := by decide +kernel
theorem dX1_sumOfTrees_125 : decode cX1_sumOfTrees 125 = .ok (.iaload, 1) := by decide +kernel
theorem dX1_sumOfTrees_126 : decode cX1_sumOfTrees 126 = .ok (.ineg, 1) := by decide +kernel
theorem dX1_sumOfTrees_127 : decode cX1_sumOfTrees 127 = .ok (.i2l, 1) := by decide +kernel
theorem dX1_sumOfTrees_128 : decode cX1_sumOfTrees 128 = .ok (.invokevirtual 29, 3) := by decide +kernel
theorem dX1_sumOfTrees_131 : decode cX1_sumOfTrees 131 = .ok (.iinc 3 1, 3) := by decide +kernel
theorem dX1_sumOfTrees_134 : decode cX1_sumOfTrees 134 = .ok (.goto (-125), 3) := by decide +kernel
theorem dX1_sumOfTrees_137 : decode cX1_sumOfTrees 137 = .ok (.aload_n 2, 1) := by decide +kernel
theorem dX1_sumOfTrees_138 : decode cX1_sumOfTrees 138 = .ok (.invokevirtual 33, 3) := by decide +kernel
theorem dX1_sumOfTrees_141 : decode cX1_sumOfTrees 141 = .ok (.lreturn, 1) := by decide +kernel
set_option maxRecDepth 20000 in
theorem ggX1_isTree_J6_bitCount_0f7a4 : GoodIn wsX1_isTree wsJ6_bitCount_0f7a4 := goodIn_r _ [4, 5, 6, 7] (by decide +kernel) (by decide +kernel)
set_option maxRecDepth 20000 in
theorem gX1_isTree_J6_bitCount_0f7a4 : GoodIn wsX1_isTree (va_wsS RX1 37 yJ6_bitCount_0f7a4 wsJ6_bitCount_0f7a4) := goodIn_app (goodIn_of _ (by decide +kernel)) ggX1_isTree_J6_bitCount_0f7a4
set_option maxRecDepth 20000 in
theorem ggX1_isTree_X1_joinedOnce : GoodIn wsX1_isTree wsX1_joinedOnce := goodIn_r _ [12, 13, 14, 15, 16, 17, 18, 19, 20, 21, 22] (by decide +kernel) (by decide +kernel)
set_option maxRecDepth 20000 in
theorem gX1_isTree_X1_joinedOnce : GoodIn wsX1_isTree (wsV RX1 43 RX1 yX1_joinedOnce wsX1_joinedOnce) := goodIn_app (goodIn_of _ (by decide +kernel)) ggX1_isTree_X1_joinedOnce
theorem dX1_isTree_0 : decode cX1_isTree 0 = .ok (.iload_n 1, 1) := by decide +kernel
theorem dX1_isTree_1 : decode cX1_isTree 1 = .ok (.invokestatic 37, 3) := by decide +kernel
theorem dX1_isTree_4 : decode cX1_isTree 4 = .ok (.iload_n 2, 1) := by decide +kernel
theorem dX1_isTree_5 : decode cX1_isTree 5 = .ok (.iconst 1, 1) := by decide +kernel
theorem dX1_isTree_6 : decode cX1_isTree 6 = .ok (.isub, 1) := by decide +kernel
theorem dX1_isTree_7 : decode cX1_isTree 7 = .ok (.if_icmp .eq 5, 3) := by decide +kernel
theorem dX1_isTree_10 : decode cX1_isTree 10 = .ok (.iconst 0, 1) := by decide +kernel
theorem dX1_isTree_11 : decode cX1_isTree 11 = .ok (.ireturn, 1) := by decide +kernel
theorem dX1_isTree_12 : decode cX1_isTree 12 = .ok (.iconst 1, 1) := by decide +kernel
theorem dX1_isTree_13 : decode cX1_isTree 13 = .ok (.istore_n 3, 1) := by decide +kernel
theorem dX1_isTree_14 : decode cX1_isTree 14 = .ok (.iconst 1, 1) := by decide +kernel
theorem dX1_isTree_15 : decode cX1_isTree 15 = .ok (.istore 4, 2) := by decide +kernel
theorem dX1_isTree_17 : decode cX1_isTree 17 = .ok (.iload 4, 2) := by decide +kernel
theorem dX1_isTree_19 : decode cX1_isTree 19 = .ok (.iload_n 2, 1) := by decide +kernel
theorem dX1_isTree_20 : decode cX1_isTree 20 = .ok (.if_icmp .ge 16, 3) := by decide +kernel
theorem dX1_isTree_23 : decode cX1_isTree 23 = .ok (.aload_n 0, 1) := by decide +kernel
theorem dX1_isTree_24 : decode cX1_isTree 24 = .ok (.iload_n 3, 1) := by decide +kernel
theorem dX1_isTree_25 : decode cX1_isTree 25 = .ok (.iload_n 1, 1) := by decide +kernel
theorem dX1_isTree_26 : decode cX1_isTree 26 = .ok (.invokevirtual 43, 3) := by decide +kernel
theorem dX1_isTree_29 : decode cX1_isTree 29 = .ok (.istore_n 3, 1) := by decide +kernel
theorem dX1_isTree_30 : decode cX1_isTree 30 = .ok (.iinc 4 1, 3) := by decide +kernel
theorem dX1_isTree_33 : decode cX1_isTree 33 = .ok (.goto (-16), 3) := by decide +kernel
theorem dX1_isTree_36 : decode cX1_isTree 36 = .ok (.iload_n 3, 1) := by decide +kernel
theorem dX1_isTree_37 : decode cX1_isTree 37 = .ok (.iconst 1, 1) := by decide +kernel
theorem dX1_isTree_38 : decode cX1_isTree 38 = .ok (.iload_n 2, 1) := by decide +kernel
theorem dX1_isTree_39 : decode cX1_isTree 39 = .ok (.ishl, 1) := by decide +kernel
theorem dX1_isTree_40 : decode cX1_isTree 40 = .ok (.iconst 1, 1) := by decide +kernel
theorem dX1_isTree_41 : decode cX1_isTree 41 = .ok (.isub, 1) := by decide +kernel
theorem dX1_isTree_42 : decode cX1_isTree 42 = .ok (.if_icmp .ne 7, 3) := by decide +kernel
theorem dX1_isTree_45 : decode cX1_isTree 45 = .ok (.iconst 1, 1) := by decide +kernel
theorem dX1_isTree_46 : decode cX1_isTree 46 = .ok (.goto 4, 3) := by decide +kernel
theorem dX1_isTree_49 : decode cX1_isTree 49 = .ok (.iconst 0, 1) := by decide +kernel
theorem dX1_isTree_50 : decode cX1_isTree 50 = .ok (.ireturn, 1) := by decide +kernel
set_option maxRecDepth 20000 in
theorem ggX1_joinedOnce_X4_has : GoodIn wsX1_joinedOnce wsX4_has := goodIn_r _ [6] (by decide +kernel) (by decide +kernel)
set_option maxRecDepth 20000 in
theorem gX1_joinedOnce_X4_has_n47 : GoodIn wsX1_joinedOnce (wsX4_has) := ggX1_joinedOnce_X4_has
theorem dX1_joinedOnce_0 : decode cX1_joinedOnce 0 = .ok (.iload_n 1, 1) := by decide +kernel
theorem dX1_joinedOnce_1 : decode cX1_joinedOnce 1 = .ok (.istore_n 3, 1) := by decide +kernel
theorem dX1_joinedOnce_2 : decode cX1_joinedOnce 2 = .ok (.iconst 0, 1) := by decide +kernel
theorem dX1_joinedOnce_3 : decode cX1_joinedOnce 3 = .ok (.istore 4, 2) := by decide +kernel
theorem dX1_joinedOnce_5 : decode cX1_joinedOnce 5 = .ok (.iload 4, 2) := by decide +kernel
theorem dX1_joinedOnce_7 : decode cX1_joinedOnce 7 = .ok (.aload_n 0, 1) := by decide +kernel
theorem dX1_joinedOnce_8 : decode cX1_joinedOnce 8 = .ok (.getfield 7, 3) := by decide +kernel
theorem dX1_joinedOnce_11 : decode cX1_joinedOnce 11 = .ok (.if_icmp .ge 51, 3) := by decide +kernel
theorem dX1_joinedOnce_14 : decode cX1_joinedOnce 14 = .ok (.iconst 1, 1) := by decide +kernel
theorem dX1_joinedOnce_15 : decode cX1_joinedOnce 15 = .ok (.aload_n 0, 1) := by decide +kernel
theorem dX1_joinedOnce_16 : decode cX1_joinedOnce 16 = .ok (.getfield 13, 3) := by decide +kernel
theorem dX1_joinedOnce_19 : decode cX1_joinedOnce 19 = .ok (.iload 4, 2) := by decide +kernel
theorem dX1_joinedOnce_21 : decode cX1_joinedOnce 21 = .ok (.iaload, 1) := by decide +kernel
theorem dX1_joinedOnce_22 : decode cX1_joinedOnce 22 = .ok (.ishl, 1) := by decide +kernel
theorem dX1_joinedOnce_23 : decode cX1_joinedOnce 23 = .ok (.iconst 1, 1) := by decide +kernel
theorem dX1_joinedOnce_24 : decode cX1_joinedOnce 24 = .ok (.aload_n 0, 1) := by decide +kernel
theorem dX1_joinedOnce_25 : decode cX1_joinedOnce 25 = .ok (.getfield 17, 3) := by decide +kernel
theorem dX1_joinedOnce_28 : decode cX1_joinedOnce 28 = .ok (.iload 4, 2) := by decide +kernel
theorem dX1_joinedOnce_30 : decode cX1_joinedOnce 30 = .ok (.iaload, 1) := by decide +kernel
theorem dX1_joinedOnce_31 : decode cX1_joinedOnce 31 = .ok (.ishl, 1) := by decide +kernel
theorem dX1_joinedOnce_32 : decode cX1_joinedOnce 32 = .ok (.ior, 1) := by decide +kernel
theorem dX1_joinedOnce_33 : decode cX1_joinedOnce 33 = .ok (.istore 5, 2) := by decide +kernel
theorem dX1_joinedOnce_35 : decode cX1_joinedOnce 35 = .ok (.iload_n 2, 1) := by decide +kernel
theorem dX1_joinedOnce_36 : decode cX1_joinedOnce 36 = .ok (.iload 4, 2) := by decide +kernel
theorem dX1_joinedOnce_38 : decode cX1_joinedOnce 38 = .ok (.invokestatic 47, 3) := by decide +kernel
theorem dX1_joinedOnce_41 : decode cX1_joinedOnce 41 = .ok (.ifCond .eq 15, 3) := by decide +kernel
theorem dX1_joinedOnce_44 : decode cX1_joinedOnce 44 = .ok (.iload_n 3, 1) := by decide +kernel
theorem dX1_joinedOnce_45 : decode cX1_joinedOnce 45 = .ok (.iload 5, 2) := by decide +kernel
theorem dX1_joinedOnce_47 : decode cX1_joinedOnce 47 = .ok (.iand, 1) := by decide +kernel
theorem dX1_joinedOnce_48 : decode cX1_joinedOnce 48 = .ok (.ifCond .eq 8, 3) := by decide +kernel
theorem dX1_joinedOnce_51 : decode cX1_joinedOnce 51 = .ok (.iload_n 3, 1) := by decide +kernel
theorem dX1_joinedOnce_52 : decode cX1_joinedOnce 52 = .ok (.iload 5, 2) := by decide +kernel
theorem dX1_joinedOnce_54 : decode cX1_joinedOnce 54 = .ok (.ior, 1) := by decide +kernel
theorem dX1_joinedOnce_55 : decode cX1_joinedOnce 55 = .ok (.istore_n 3, 1) := by decide +kernel
theorem dX1_joinedOnce_56 : decode cX1_joinedOnce 56 = .ok (.iinc 4 1, 3) := by decide +kernel
theorem dX1_joinedOnce_59 : decode cX1_joinedOnce 59 = .ok (.goto (-54), 3) := by decide +kernel
theorem dX1_joinedOnce_62 : decode cX1_joinedOnce 62 = .ok (.iload_n 3, 1) := by decide +kernel
theorem dX1_joinedOnce_63 : decode cX1_joinedOnce 63 = .ok (.ireturn, 1) := by decide +kernel
set_option maxRecDepth 20000 in
theorem ggX1_productOf_X4_has : GoodIn wsX1_productOf wsX4_has := goodIn_r _ [5] (by decide +kernel) (by decide +kernel)
set_option maxRecDepth 20000 in
theorem gX1_productOf_X4_has_n47 : GoodIn wsX1_productOf (wsX4_has) := ggX1_productOf_X4_has
theorem dX1_productOf_0 : decode cX1_productOf 0 = .ok (.lconst 1, 1) := by decide +kernel
theorem dX1_productOf_1 : decode cX1_productOf 1 = .ok (.lstore_n 2, 1) := by decide +kernel
theorem dX1_productOf_2 : decode cX1_productOf 2 = .ok (.iconst 0, 1) := by decide +kernel
theorem dX1_productOf_3 : decode cX1_productOf 3 = .ok (.istore 4, 2) := by decide +kernel
theorem dX1_productOf_5 : decode cX1_productOf 5 = .ok (.iload 4, 2) := by decide +kernel
theorem dX1_productOf_7 : decode cX1_productOf 7 = .ok (.aload_n 0, 1) := by decide +kernel
theorem dX1_productOf_8 : decode cX1_productOf 8 = .ok (.getfield 7, 3) := by decide +kernel
theorem dX1_productOf_11 : decode cX1_productOf 11 = .ok (.if_icmp .ge 29, 3) := by decide +kernel
theorem dX1_productOf_14 : decode cX1_productOf 14 = .ok (.iload_n 1, 1) := by decide +kernel
theorem dX1_productOf_15 : decode cX1_productOf 15 = .ok (.iload 4, 2) := by decide +kernel
theorem dX1_productOf_17 : decode cX1_productOf 17 = .ok (.invokestatic 47, 3) := by decide +kernel
theorem dX1_productOf_20 : decode cX1_productOf 20 = .ok (.ifCond .eq 14, 3) := by decide +kernel
theorem dX1_productOf_23 : decode cX1_productOf 23 = .ok (.lload_n 2, 1) := by decide +kernel
theorem dX1_productOf_24 : decode cX1_productOf 24 = .ok (.aload_n 0, 1) := by decide +kernel
theorem dX1_productOf_25 : decode cX1_productOf 25 = .ok (.getfield 20, 3) := by decide +kernel
theorem dX1_productOf_28 : decode cX1_productOf 28 = .ok (.iload 4, 2) := by decide +kernel
theorem dX1_productOf_30 : decode cX1_productOf 30 = .ok (.iaload, 1) := by decide +kernel
theorem dX1_productOf_31 : decode cX1_productOf 31 = .ok (.i2l, 1) := by decide +kernel
theorem dX1_productOf_32 : decode cX1_productOf 32 = .ok (.lmul, 1) := by decide +kernel
theorem dX1_productOf_33 : decode cX1_productOf 33 = .ok (.lstore_n 2, 1) := by decide +kernel
theorem dX1_productOf_34 : decode cX1_productOf 34 = .ok (.iinc 4 1, 3) := by decide +kernel
theorem dX1_productOf_37 : decode cX1_productOf 37 = .ok (.goto (-32), 3) := by decide +kernel
theorem dX1_productOf_40 : decode cX1_productOf 40 = .ok (.lload_n 2, 1) := by decide +kernel
theorem dX1_productOf_41 : decode cX1_productOf 41 = .ok (.lreturn, 1) := by decide +kernel
theorem dX2_init_0 : decode cX2_init 0 = .ok (.aload_n 0, 1) := by decide +kernel
theorem dX2_init_1 : decode cX2_init 1 = .ok (.invokespecial 3, 3) := by decide +kernel
theorem dX2_init_4 : decode cX2_init 4 = .ok (.aload_n 0, 1) := by decide +kernel
theorem dX2_init_5 : decode cX2_init 5 = .ok (.bipush 36, 2) := by decide +kernel
theorem dX2_init_7 : decode cX2_init 7 = .ok (.newarray .long, 2) := by decide +kernel
theorem dX2_init_9 : decode cX2_init 9 = .ok (.putfield 9, 3) := by decide +kernel
theorem dX2_init_12 : decode cX2_init 12 = .ok (.aload_n 0, 1) := by decide +kernel
theorem dX2_init_13 : decode cX2_init 13 = .ok (.bipush 64, 2) := by decide +kernel
theorem dX2_init_15 : decode cX2_init 15 = .ok (.newarray .long, 2) := by decide +kernel
theorem dX2_init_17 : decode cX2_init 17 = .ok (.putfield 15, 3) := by decide +kernel
theorem dX2_init_20 : decode cX2_init 20 = .ok (.return_, 1) := by decide +kernel
theorem dX2_begin_0 : decode cX2_begin 0 = .ok (.aload_n 0, 1) := by decide +kernel
theorem dX2_begin_1 : decode cX2_begin 1 = .ok (.iconst 0, 1) := by decide +kernel
theorem dX2_begin_2 : decode cX2_begin 2 = .ok (.bipush 6, 2) := by decide +kernel
theorem dX2_begin_4 : decode cX2_begin 4 = .ok (.iload_n 1, 1) := by decide +kernel
theorem dX2_begin_5 : decode cX2_begin 5 = .ok (.invokestatic 18, 3) := by decide +kernel
theorem dX2_begin_8 : decode cX2_begin 8 = .ok (.invokestatic 24, 3) := by decide +kernel
theorem dX2_begin_11 : decode cX2_begin 11 = .ok (.putfield 27, 3) := by decide +kernel
theorem dX2_begin_14 : decode cX2_begin 14 = .ok (.iconst 0, 1) := by decide +kernel
theorem dX2_begin_15 : decode cX2_begin 15 = .ok (.istore_n 2, 1) := by decide +kernel
theorem dX2_begin_16 : decode cX2_begin 16 = .ok (.iload_n 2, 1) := by decide +kernel
theorem dX2_begin_17 : decode cX2_begin 17 = .ok (.aload_n 0, 1) := by decide +kernel
theorem dX2_begin_18 : decode cX2_begin 18 = .ok (.getfield 9, 3) := by decide +kernel
theorem dX2_begin_21 : decode cX2_begin 21 = .ok (.arraylength, 1) := by decide +kernel
theorem dX2_begin_22 : decode cX2_begin 22 = .ok (.if_icmp .ge 16, 3) := by decide +kernel
theorem dX2_begin_25 : decode cX2_begin 25 = .ok (.aload_n 0, 1) := by decide +kernel
theorem dX2_begin_26 : decode cX2_begin 26 = .ok (.getfield 9, 3) := by decide +kernel
theorem dX2_begin_29 : decode cX2_begin 29 = .ok (.iload_n 2, 1) := by decide +kernel
theorem dX2_begin_30 : decode cX2_begin 30 = .ok (.lconst 0, 1) := by decide +kernel
theorem dX2_begin_31 : decode cX2_begin 31 = .ok (.lastore, 1) := by decide +kernel
theorem dX2_begin_32 : decode cX2_begin 32 = .ok (.iinc 2 1, 3) := by decide +kernel
theorem dX2_begin_35 : decode cX2_begin 35 = .ok (.goto (-19), 3) := by decide +kernel
theorem dX2_begin_38 : decode cX2_begin 38 = .ok (.return_, 1) := by decide +kernel
set_option maxRecDepth 20000 in
theorem ggX2_add_X4_isAmong : GoodIn wsX2_add wsX4_isAmong := goodIn_r _ [5] (by decide +kernel) (by decide +kernel)
set_option maxRecDepth 20000 in
theorem gX2_add_X4_isAmong_n31 : GoodIn wsX2_add (wsX4_isAmong) := ggX2_add_X4_isAmong
theorem dX2_add_0 : decode cX2_add 0 = .ok (.iload_n 1, 1) := by decide +kernel
theorem dX2_add_1 : decode cX2_add 1 = .ok (.iconst 0, 1) := by decide +kernel
theorem dX2_add_2 : decode cX2_add 2 = .ok (.aload_n 0, 1) := by decide +kernel
theorem dX2_add_3 : decode cX2_add 3 = .ok (.getfield 27, 3) := by decide +kernel
theorem dX2_add_6 : decode cX2_add 6 = .ok (.iconst 1, 1) := by decide +kernel
theorem dX2_add_7 : decode cX2_add 7 = .ok (.isub, 1) := by decide +kernel
theorem dX2_add_8 : decode cX2_add 8 = .ok (.invokestatic 31, 3) := by decide +kernel
theorem dX2_add_11 : decode cX2_add 11 = .ok (.ifCond .eq 32, 3) := by decide +kernel
theorem dX2_add_14 : decode cX2_add 14 = .ok (.iload_n 2, 1) := by decide +kernel
theorem dX2_add_15 : decode cX2_add 15 = .ok (.iconst 0, 1) := by decide +kernel
theorem dX2_add_16 : decode cX2_add 16 = .ok (.aload_n 0, 1) := by decide +kernel
theorem dX2_add_17 : decode cX2_add 17 = .ok (.getfield 27, 3) := by decide +kernel
theorem dX2_add_20 : decode cX2_add 20 = .ok (.iconst 1, 1) := by decide +kernel
theorem dX2_add_21 : decode cX2_add 21 = .ok (.isub, 1) := by decide +kernel
theorem dX2_add_22 : decode cX2_add 22 = .ok (.invokestatic 31, 3) := by decide +kernel
theorem dX2_add_25 : decode cX2_add 25 = .ok (.ifCond .eq 18, 3) := by decide +kernel
theorem dX2_add_28 : decode cX2_add 28 = .ok (.aload_n 0, 1) := by decide +kernel
theorem dX2_add_29 : decode cX2_add 29 = .ok (.getfield 9, 3) := by decide +kernel
theorem dX2_add_32 : decode cX2_add 32 = .ok (.iload_n 1, 1) := by decide +kernel
theorem dX2_add_33 : decode cX2_add 33 = .ok (.bipush 6, 2) := by decide +kernel
theorem dX2_add_35 : decode cX2_add 35 = .ok (.imul, 1) := by decide +kernel
theorem dX2_add_36 : decode cX2_add 36 = .ok (.iload_n 2, 1) := by decide +kernel
theorem dX2_add_37 : decode cX2_add 37 = .ok (.iadd, 1) := by decide +kernel
theorem dX2_add_38 : decode cX2_add 38 = .ok (.dup2, 1) := by decide +kernel
theorem dX2_add_39 : decode cX2_add 39 = .ok (.laload, 1) := by decide +kernel
theorem dX2_add_40 : decode cX2_add 40 = .ok (.lload_n 3, 1) := by decide +kernel
theorem dX2_add_41 : decode cX2_add 41 = .ok (.ladd, 1) := by decide +kernel
theorem dX2_add_42 : decode cX2_add 42 = .ok (.lastore, 1) := by decide +kernel
theorem dX2_add_43 : decode cX2_add 43 = .ok (.return_, 1) := by decide +kernel
set_option maxRecDepth 20000 in
theorem ggX2_determinant_X2_alongLastRow : GoodIn wsX2_determinant wsX2_alongLastRow := goodIn_r _ [7, 2, 8, 1, 9, 10, 11, 12, 13, 14, 15, 16, 17, 18] (by decide +kernel) (by decide +kernel)
set_option maxRecDepth 20000 in
theorem gX2_determinant_X2_alongLastRow : GoodIn wsX2_determinant (wsV RX2 35 RX2 yX2_alongLastRow wsX2_alongLastRow) := goodIn_app (goodIn_of _ (by decide +kernel)) ggX2_determinant_X2_alongLastRow
theorem dX2_determinant_0 : decode cX2_determinant 0 = .ok (.aload_n 0, 1) := by decide +kernel
theorem dX2_determinant_1 : decode cX2_determinant 1 = .ok (.getfield 15, 3) := by decide +kernel
theorem dX2_determinant_4 : decode cX2_determinant 4 = .ok (.iconst 0, 1) := by decide +kernel
theorem dX2_determinant_5 : decode cX2_determinant 5 = .ok (.lconst 1, 1) := by decide +kernel
theorem dX2_determinant_6 : decode cX2_determinant 6 = .ok (.lastore, 1) := by decide +kernel
theorem dX2_determinant_7 : decode cX2_determinant 7 = .ok (.iconst 1, 1) := by decide +kernel
theorem dX2_determinant_8 : decode cX2_determinant 8 = .ok (.aload_n 0, 1) := by decide +kernel
theorem dX2_determinant_9 : decode cX2_determinant 9 = .ok (.getfield 27, 3) := by decide +kernel
theorem dX2_determinant_12 : decode cX2_determinant 12 = .ok (.ishl, 1) := by decide +kernel
theorem dX2_determinant_13 : decode cX2_determinant 13 = .ok (.iconst 1, 1) := by decide +kernel
theorem dX2_determinant_14 : decode cX2_determinant 14 = .ok (.isub, 1) := by decide +kernel
theorem dX2_determinant_15 : decode cX2_determinant 15 = .ok (.istore_n 1, 1) := by decide +kernel
theorem dX2_determinant_16 : decode cX2_determinant 16 = .ok (.iconst 1, 1) := by decide +kernel
theorem dX2_determinant_17 : decode cX2_determinant 17 = .ok (.istore_n 2, 1) := by decide +kernel
theorem dX2_determinant_18 : decode cX2_determinant 18 = .ok (.iload_n 2, 1) := by decide +kernel
theorem dX2_determinant_19 : decode cX2_determinant 19 = .ok (.iload_n 1, 1) := by decide +kernel
theorem dX2_determinant_20 : decode cX2_determinant 20 = .ok (.if_icmp .gt 20, 3) := by decide +kernel
theorem dX2_determinant_23 : decode cX2_determinant 23 = .ok (.aload_n 0, 1) := by decide +kernel
theorem dX2_determinant_24 : decode cX2_determinant 24 = .ok (.getfield 15, 3) := by decide +kernel
theorem dX2_determinant_27 : decode cX2_determinant 27 = .ok (.iload_n 2, 1) := by decide +kernel
theorem dX2_determinant_28 : decode cX2_determinant 28 = .ok (.aload_n 0, 1) := by decide +kernel
theorem dX2_determinant_29 : decode cX2_determinant 29 = .ok (.iload_n 2, 1) := by decide +kernel
theorem dX2_determinant_30 : decode cX2_determinant 30 = .ok (.invokevirtual 35, 3) := by decide +kernel
theorem dX2_determinant_33 : decode cX2_determinant 33 = .ok (.lastore, 1) := by decide +kernel
theorem dX2_determinant_34 : decode cX2_determinant 34 = .ok (.iinc 2 1, 3) := by decide +kernel
theorem dX2_determinant_37 : decode cX2_determinant 37 = .ok (.goto (-19), 3) := by decide +kernel
theorem dX2_determinant_40 : decode cX2_determinant 40 = .ok (.aload_n 0, 1) := by decide +kernel
theorem dX2_determinant_41 : decode cX2_determinant 41 = .ok (.getfield 15, 3) := by decide +kernel
theorem dX2_determinant_44 : decode cX2_determinant 44 = .ok (.iload_n 1, 1) := by decide +kernel
theorem dX2_determinant_45 : decode cX2_determinant 45 = .ok (.laload, 1) := by decide +kernel
theorem dX2_determinant_46 : decode cX2_determinant 46 = .ok (.lreturn, 1) := by decide +kernel
set_option maxRecDepth 20000 in
theorem ggX2_alongLastRow_J6_bitCount_0f7a4 : GoodIn wsX2_alongLastRow wsJ6_bitCount_0f7a4 := goodIn_r _ [7, 8, 9, 10] (by decide +kernel) (by decide +kernel)
set_option maxRecDepth 20000 in
theorem gX2_alongLastRow_J6_bitCount_0f7a4 : GoodIn wsX2_alongLastRow (va_wsS RX2 39 yJ6_bitCount_0f7a4 wsJ6_bitCount_0f7a4) := goodIn_app (goodIn_of _ (by decide +kernel)) ggX2_alongLastRow_J6_bitCount_0f7a4
theorem dX2_alongLastRow_0 : decode cX2_alongLastRow 0 = .ok (.iload_n 1, 1) := by decide +kernel
theorem dX2_alongLastRow_1 : decode cX2_alongLastRow 1 = .ok (.invokestatic 39, 3) := by decide +kernel
theorem dX2_alongLastRow_4 : decode cX2_alongLastRow 4 = .ok (.iconst 1, 1) := by decide +kernel
theorem dX2_alongLastRow_5 : decode cX2_alongLastRow 5 = .ok (.isub, 1) := by decide +kernel
theorem dX2_alongLastRow_6 : decode cX2_alongLastRow 6 = .ok (.bipush 6, 2) := by decide +kernel
theorem dX2_alongLastRow_8 : decode cX2_alongLastRow 8 = .ok (.imul, 1) := by decide +kernel
theorem dX2_alongLastRow_9 : decode cX2_alongLastRow 9 = .ok (.istore_n 2, 1) := by decide +kernel
theorem dX2_alongLastRow_10 : decode cX2_alongLastRow 10 = .ok (.lconst 1, 1) := by decide +kernel
theorem dX2_alongLastRow_11 : decode cX2_alongLastRow 11 = .ok (.lstore_n 3, 1) := by decide +kernel
theorem dX2_alongLastRow_12 : decode cX2_alongLastRow 12 = .ok (.lconst 0, 1) := by decide +kernel
theorem dX2_alongLastRow_13 : decode cX2_alongLastRow 13 = .ok (.lstore 5, 2) := by decide +kernel
theorem dX2_alongLastRow_15 : decode cX2_alongLastRow 15 = .ok (.aload_n 0, 1) := by decide +kernel
theorem dX2_alongLastRow_16 : decode cX2_alongLastRow 16 = .ok (.getfield 27, 3) := by decide +kernel
theorem dX2_alongLastRow_19 : decode cX2_alongLastRow 19 = .ok (.iconst 1, 1) := by decide +kernel
theorem dX2_alongLastRow_20 : decode cX2_alongLastRow 20 = .ok (.isub, 1) := by decide +kernel
theorem dX2_alongLastRow_21 : decode cX2_alongLastRow 21 = .ok (.istore 7, 2) := by decide +kernel
theorem dX2_alongLastRow_23 : decode cX2_alongLastRow 23 = .ok (.iload 7, 2) := by decide +kernel
theorem dX2_alongLastRow_25 : decode cX2_alongLastRow 25 = .ok (.ifCond .lt 51, 3) := by decide +kernel
theorem dX2_alongLastRow_28 : decode cX2_alongLastRow 28 = .ok (.iconst 1, 1) := by decide +kernel
theorem dX2_alongLastRow_29 : decode cX2_alongLastRow 29 = .ok (.iload 7, 2) := by decide +kernel
theorem dX2_alongLastRow_31 : decode cX2_alongLastRow 31 = .ok (.ishl, 1) := by decide +kernel
theorem dX2_alongLastRow_32 : decode cX2_alongLastRow 32 = .ok (.istore 8, 2) := by decide +kernel
theorem dX2_alongLastRow_34 : decode cX2_alongLastRow 34 = .ok (.iload_n 1, 1) := by decide +kernel
theorem dX2_alongLastRow_35 : decode cX2_alongLastRow 35 = .ok (.iload 8, 2) := by decide +kernel
theorem dX2_alongLastRow_37 : decode cX2_alongLastRow 37 = .ok (.iand, 1) := by decide +kernel
theorem dX2_alongLastRow_38 : decode cX2_alongLastRow 38 = .ok (.ifCond .eq 32, 3) := by decide +kernel
theorem dX2_alongLastRow_41 : decode cX2_alongLastRow 41 = .ok (.lload 5, 2) := by decide +kernel
theorem dX2_alongLastRow_43 : decode cX2_alongLastRow 43 = .ok (.lload_n 3, 1) := by decide +kernel
theorem dX2_alongLastRow_44 : decode cX2_alongLastRow 44 = .ok (.aload_n 0, 1) := by decide +kernel
theorem dX2_alongLastRow_45 : decode cX2_alongLastRow 45 = .ok (.getfield 9, 3) := by decide +kernel
theorem dX2_alongLastRow_48 : decode cX2_alongLastRow 48 = .ok (.iload_n 2, 1) := by decide +kernel
theorem dX2_alongLastRow_49 : decode cX2_alongLastRow 49 = .ok (.iload 7, 2) := by decide +kernel
theorem dX2_alongLastRow_51 : decode cX2_alongLastRow 51 = .ok (.iadd, 1) := by decide +kernel
theorem dX2_alongLastRow_52 : decode cX2_alongLastRow 52 = .ok (.laload, 1) := by decide +kernel
theorem dX2_alongLastRow_53 : decode cX2_alongLastRow 53 = .ok (.lmul, 1) := by decide +kernel
theorem dX2_alongLastRow_54 : decode cX2_alongLastRow 54 = .ok (.aload_n 0, 1) := by decide +kernel
theorem dX2_alongLastRow_55 : decode cX2_alongLastRow 55 = .ok (.getfield 15, 3) := by decide +kernel
theorem dX2_alongLastRow_58 : decode cX2_alongLastRow 58 = .ok (.iload_n 1, 1) := by decide +kernel
theorem dX2_alongLastRow_59 : decode cX2_alongLastRow 59 = .ok (.iload 8, 2) := by decide +kernel
theorem dX2_alongLastRow_61 : decode cX2_alongLastRow 61 = .ok (.isub, 1) := by decide +kernel
theorem dX2_alongLastRow_62 : decode cX2_alongLastRow 62 = .ok (.laload, 1) := by decide +kernel
theorem dX2_alongLastRow_63 : decode cX2_alongLastRow 63 = .ok (.lmul, 1) := by decide +kernel
theorem dX2_alongLastRow_64 : decode cX2_alongLastRow 64 = .ok (.ladd, 1) := by decide +kernel
theorem dX2_alongLastRow_65 : decode cX2_alongLastRow 65 = .ok (.lstore 5, 2) := by decide +kernel
theorem dX2_alongLastRow_67 : decode cX2_alongLastRow 67 = .ok (.lload_n 3, 1) := by decide +kernel
theorem dX2_alongLastRow_68 : decode cX2_alongLastRow 68 = .ok (.lneg, 1) := by decide +kernel
theorem dX2_alongLastRow_69 : decode cX2_alongLastRow 69 = .ok (.lstore_n 3, 1) := by decide +kernel
theorem dX2_alongLastRow_70 : decode cX2_alongLastRow 70 = .ok (.iinc 7 (-1), 3) := by decide +kernel
theorem dX2_alongLastRow_73 : decode cX2_alongLastRow 73 = .ok (.goto (-50), 3) := by decide +kernel
theorem dX2_alongLastRow_76 : decode cX2_alongLastRow 76 = .ok (.lload 5, 2) := by decide +kernel
theorem dX2_alongLastRow_78 : decode cX2_alongLastRow 78 = .ok (.lreturn, 1) := by decide +kernel
theorem dX3_init_0 : decode cX3_init 0 = .ok (.aload_n 0, 1) := by decide +kernel
theorem dX3_init_1 : decode cX3_init 1 = .ok (.invokespecial 1, 3) := by decide +kernel
theorem dX3_init_4 : decode cX3_init 4 = .ok (.aload_n 0, 1) := by decide +kernel
theorem dX3_init_5 : decode cX3_init 5 = .ok (.iload_n 1, 1) := by decide +kernel
theorem dX3_init_6 : decode cX3_init 6 = .ok (.putfield 7, 3) := by decide +kernel
theorem dX3_init_9 : decode cX3_init 9 = .ok (.aload_n 0, 1) := by decide +kernel
theorem dX3_init_10 : decode cX3_init 10 = .ok (.iload_n 1, 1) := by decide +kernel
theorem dX3_init_11 : decode cX3_init 11 = .ok (.iload_n 1, 1) := by decide +kernel
theorem dX3_init_12 : decode cX3_init 12 = .ok (.imul, 1) := by decide +kernel
theorem dX3_init_13 : decode cX3_init 13 = .ok (.newarray .int, 2) := by decide +kernel
theorem dX3_init_15 : decode cX3_init 15 = .ok (.putfield 13, 3) := by decide +kernel
theorem dX3_init_18 : decode cX3_init 18 = .ok (.return_, 1) := by decide +kernel
theorem dX3_put_0 : decode cX3_put 0 = .ok (.aload_n 0, 1) := by decide +kernel
theorem dX3_put_1 : decode cX3_put 1 = .ok (.getfield 13, 3) := by decide +kernel
theorem dX3_put_4 : decode cX3_put 4 = .ok (.iload_n 1, 1) := by decide +kernel
theorem dX3_put_5 : decode cX3_put 5 = .ok (.aload_n 0, 1) := by decide +kernel
theorem dX3_put_6 : decode cX3_put 6 = .ok (.getfield 7, 3) := by decide +kernel
theorem dX3_put_9 : decode cX3_put 9 = .ok (.imul, 1) := by decide +kernel
theorem dX3_put_10 : decode cX3_put 10 = .ok (.iload_n 2, 1) := by decide +kernel
theorem dX3_put_11 : decode cX3_put 11 = .ok (.iadd, 1) := by decide +kernel
theorem dX3_put_12 : decode cX3_put 12 = .ok (.iload_n 3, 1) := by decide +kernel
theorem dX3_put_13 : decode cX3_put 13 = .ok (.iastore, 1) := by decide +kernel
theorem dX3_put_14 : decode cX3_put 14 = .ok (.aload_n 0, 1) := by decide +kernel
theorem dX3_put_15 : decode cX3_put 15 = .ok (.getfield 13, 3) := by decide +kernel
theorem dX3_put_18 : decode cX3_put 18 = .ok (.iload_n 2, 1) := by decide +kernel
theorem dX3_put_19 : decode cX3_put 19 = .ok (.aload_n 0, 1) := by decide +kernel
theorem dX3_put_20 : decode cX3_put 20 = .ok (.getfield 7, 3) := by decide +kernel
theorem dX3_put_23 : decode cX3_put 23 = .ok (.imul, 1) := by decide +kernel
theorem dX3_put_24 : decode cX3_put 24 = .ok (.iload_n 1, 1) := by decide +kernel
theorem dX3_put_25 : decode cX3_put 25 = .ok (.iadd, 1) := by decide +kernel
theorem dX3_put_26 : decode cX3_put 26 = .ok (.iload_n 3, 1) := by decide +kernel
theorem dX3_put_27 : decode cX3_put 27 = .ok (.iastore, 1) := by decide +kernel
theorem dX3_put_28 : decode cX3_put 28 = .ok (.return_, 1) := by decide +kernel
theorem dX3_at_0 : decode cX3_at 0 = .ok (.aload_n 0, 1) := by decide +kernel
theorem dX3_at_1 : decode cX3_at 1 = .ok (.getfield 13, 3) := by decide +kernel
theorem dX3_at_4 : decode cX3_at 4 = .ok (.iload_n 1, 1) := by decide +kernel
theorem dX3_at_5 : decode cX3_at 5 = .ok (.aload_n 0, 1) := by decide +kernel
theorem dX3_at_6 : decode cX3_at 6 = .ok (.getfield 7, 3) := by decide +kernel
theorem dX3_at_9 : decode cX3_at 9 = .ok (.imul, 1) := by decide +kernel
theorem dX3_at_10 : decode cX3_at 10 = .ok (.iload_n 2, 1) := by decide +kernel
theorem dX3_at_11 : decode cX3_at 11 = .ok (.iadd, 1) := by decide +kernel
theorem dX3_at_12 : decode cX3_at 12 = .ok (.iaload, 1) := by decide +kernel
theorem dX3_at_13 : decode cX3_at 13 = .ok (.ireturn, 1) := by decide +kernel
set_option maxRecDepth 20000 in
theorem ggX3_worthOf_J6_bitCount_0f7a4 : GoodIn wsX3_worthOf wsJ6_bitCount_0f7a4 := goodIn_r _ [5, 6, 7, 8] (by decide +kernel) (by decide +kernel)
set_option maxRecDepth 20000 in
theorem gX3_worthOf_J6_bitCount_0f7a4 : GoodIn wsX3_worthOf (va_wsS RX3 17 yJ6_bitCount_0f7a4 wsJ6_bitCount_0f7a4) := goodIn_app (goodIn_of _ (by decide +kernel)) ggX3_worthOf_J6_bitCount_0f7a4
set_option maxRecDepth 20000 in
theorem ggX3_worthOf_X2_begin : GoodIn wsX3_worthOf wsX2_begin := goodIn_r _ [13, 14, 15, 16, 17, 18, 19, 20, 21, 22, 54, 55, 56] (by decide +kernel) (by decide +kernel)
set_option maxRecDepth 20000 in
theorem gX3_worthOf_X2_begin : GoodIn wsX3_worthOf (wsV RX3 23 RX2 yX2_begin wsX2_begin) := goodIn_app (goodIn_of _ (by decide +kernel)) ggX3_worthOf_X2_begin
set_option maxRecDepth 20000 in
theorem ggX3_worthOf_X4_has : GoodIn wsX3_worthOf wsX4_has := goodIn_r _ [25] (by decide +kernel) (by decide +kernel)
set_option maxRecDepth 20000 in
theorem gX3_worthOf_X4_has_n29 : GoodIn wsX3_worthOf (wsX4_has) := ggX3_worthOf_X4_has
set_option maxRecDepth 20000 in
theorem ggX3_worthOf_X3_layRow : GoodIn wsX3_worthOf wsX3_layRow := goodIn_r _ [30, 1, 23, 24, 25, 31, 32, 33, 29, 34, 35, 36, 37, 38, 12, 39, 21, 22, 40, 41, 52, 53, 54, 55, 56] (by decide +kernel) (by decide +kernel)
set_option maxRecDepth 20000 in
theorem gX3_worthOf_X3_layRow : GoodIn wsX3_worthOf (wsV RX3 35 RX3 yX3_layRow wsX3_layRow) := goodIn_app (goodIn_of _ (by decide +kernel)) ggX3_worthOf_X3_layRow
set_option maxRecDepth 20000 in
theorem ggX3_worthOf_X2_add : GoodIn wsX3_worthOf wsX2_add := goodIn_r _ [39, 21, 22, 40, 24, 41, 54, 55, 56] (by decide +kernel) (by decide +kernel)
set_option maxRecDepth 20000 in
theorem gX3_worthOf_X2_add : GoodIn wsX3_worthOf (wsV RX3 39 RX2 yX2_add wsX2_add) := goodIn_app (goodIn_of _ (by decide +kernel)) ggX3_worthOf_X2_add
set_option maxRecDepth 20000 in
theorem ggX3_worthOf_X2_determinant : GoodIn wsX3_worthOf wsX2_determinant := goodIn_r _ [45, 46, 21, 47, 48, 49, 12, 50, 22, 51, 3, 4, 5, 6, 7, 8, 54, 55, 56] (by decide +kernel) (by decide +kernel)
set_option maxRecDepth 20000 in
theorem gX3_worthOf_X2_determinant : GoodIn wsX3_worthOf (wsV RX3 43 RX2 yX2_determinant wsX2_determinant) := goodIn_app (goodIn_of _ (by decide +kernel)) ggX3_worthOf_X2_determinant
theorem dX3_worthOf_0 : decode cX3_worthOf 0 = .ok (.aload_n 3, 1) := by decide +kernel
theorem dX3_worthOf_1 : decode cX3_worthOf 1 = .ok (.iload_n 1, 1) := by decide +kernel
theorem dX3_worthOf_2 : decode cX3_worthOf 2 = .ok (.invokestatic 17, 3) := by decide +kernel
theorem dX3_worthOf_5 : decode cX3_worthOf 5 = .ok (.invokevirtual 23, 3) := by decide +kernel
theorem dX3_worthOf_8 : decode cX3_worthOf 8 = .ok (.iconst 0, 1) := by decide +kernel
theorem dX3_worthOf_9 : decode cX3_worthOf 9 = .ok (.istore 4, 2) := by decide +kernel
theorem dX3_worthOf_11 : decode cX3_worthOf 11 = .ok (.iconst 0, 1) := by decide +kernel
theorem dX3_worthOf_12 : decode cX3_worthOf 12 = .ok (.istore 5, 2) := by decide +kernel
theorem dX3_worthOf_14 : decode cX3_worthOf 14 = .ok (.iload 5, 2) := by decide +kernel
theorem dX3_worthOf_16 : decode cX3_worthOf 16 = .ok (.aload_n 0, 1) := by decide +kernel
theorem dX3_worthOf_17 : decode cX3_worthOf 17 = .ok (.getfield 7, 3) := by decide +kernel
theorem dX3_worthOf_20 : decode cX3_worthOf 20 = .ok (.if_icmp .ge 41, 3) := by decide +kernel
theorem dX3_worthOf_23 : decode cX3_worthOf 23 = .ok (.iload_n 1, 1) := by decide +kernel
theorem dX3_worthOf_24 : decode cX3_worthOf 24 = .ok (.iload 5, 2) := by decide +kernel
theorem dX3_worthOf_26 : decode cX3_worthOf 26 = .ok (.invokestatic 29, 3) := by decide +kernel
theorem dX3_worthOf_29 : decode cX3_worthOf 29 = .ok (.ifCond .eq 26, 3) := by decide +kernel
theorem dX3_worthOf_32 : decode cX3_worthOf 32 = .ok (.aload_n 0, 1) := by decide +kernel
theorem dX3_worthOf_33 : decode cX3_worthOf 33 = .ok (.iload 5, 2) := by decide +kernel
theorem dX3_worthOf_35 : decode cX3_worthOf 35 = .ok (.iload 4, 2) := by decide +kernel
theorem dX3_worthOf_37 : decode cX3_worthOf 37 = .ok (.iload_n 1, 1) := by decide +kernel
theorem dX3_worthOf_38 : decode cX3_worthOf 38 = .ok (.aload_n 3, 1) := by decide +kernel
theorem dX3_worthOf_39 : decode cX3_worthOf 39 = .ok (.invokevirtual 35, 3) := by decide +kernel
theorem dX3_worthOf_42 : decode cX3_worthOf 42 = .ok (.aload_n 3, 1) := by decide +kernel
theorem dX3_worthOf_43 : decode cX3_worthOf 43 = .ok (.iload 4, 2) := by decide +kernel
theorem dX3_worthOf_45 : decode cX3_worthOf 45 = .ok (.iload 4, 2) := by decide +kernel
theorem dX3_worthOf_47 : decode cX3_worthOf 47 = .ok (.iload_n 2, 1) := by decide +kernel
theorem dX3_worthOf_48 : decode cX3_worthOf 48 = .ok (.i2l, 1) := by decide +kernel
theorem dX3_worthOf_49 : decode cX3_worthOf 49 = .ok (.invokevirtual 39, 3) := by decide +kernel
theorem dX3_worthOf_52 : decode cX3_worthOf 52 = .ok (.iinc 4 1, 3) := by decide +kernel
theorem dX3_worthOf_55 : decode cX3_worthOf 55 = .ok (.iinc 5 1, 3) := by decide +kernel
theorem dX3_worthOf_58 : decode cX3_worthOf 58 = .ok (.goto (-44), 3) := by decide +kernel
theorem dX3_worthOf_61 : decode cX3_worthOf 61 = .ok (.aload_n 3, 1) := by decide +kernel
theorem dX3_worthOf_62 : decode cX3_worthOf 62 = .ok (.invokevirtual 43, 3) := by decide +kernel
theorem dX3_worthOf_65 : decode cX3_worthOf 65 = .ok (.lreturn, 1) := by decide +kernel
set_option maxRecDepth 20000 in
theorem ggX3_layRow_X4_has : GoodIn wsX3_layRow wsX4_has := goodIn_r _ [4] (by decide +kernel) (by decide +kernel)
set_option maxRecDepth 20000 in
theorem gX3_layRow_X4_has_n29 : GoodIn wsX3_layRow (wsX4_has) := ggX3_layRow_X4_has
set_option maxRecDepth 20000 in
theorem ggX3_layRow_X3_at : GoodIn wsX3_layRow wsX3_at := goodIn_r _ [9, 10, 1, 20, 21] (by decide +kernel) (by decide +kernel)
set_option maxRecDepth 20000 in
theorem gX3_layRow_X3_at : GoodIn wsX3_layRow (wsV RX3 47 RX3 yX3_at wsX3_at) := goodIn_app (goodIn_of _ (by decide +kernel)) ggX3_layRow_X3_at
set_option maxRecDepth 20000 in
theorem ggX3_layRow_X2_add : GoodIn wsX3_layRow wsX2_add := goodIn_r _ [15, 16, 17, 18, 3, 19, 22, 23, 24] (by decide +kernel) (by decide +kernel)
set_option maxRecDepth 20000 in
theorem gX3_layRow_X2_add : GoodIn wsX3_layRow (wsV RX3 39 RX2 yX2_add wsX2_add) := goodIn_app (goodIn_of _ (by decide +kernel)) ggX3_layRow_X2_add
theorem dX3_layRow_0 : decode cX3_layRow 0 = .ok (.iconst 0, 1) := by decide +kernel
theorem dX3_layRow_1 : decode cX3_layRow 1 = .ok (.istore 5, 2) := by decide +kernel
theorem dX3_layRow_3 : decode cX3_layRow 3 = .ok (.iconst 0, 1) := by decide +kernel
theorem dX3_layRow_4 : decode cX3_layRow 4 = .ok (.istore 6, 2) := by decide +kernel
theorem dX3_layRow_6 : decode cX3_layRow 6 = .ok (.iload 6, 2) := by decide +kernel
theorem dX3_layRow_8 : decode cX3_layRow 8 = .ok (.aload_n 0, 1) := by decide +kernel
theorem dX3_layRow_9 : decode cX3_layRow 9 = .ok (.getfield 7, 3) := by decide +kernel
theorem dX3_layRow_12 : decode cX3_layRow 12 = .ok (.if_icmp .ge 37, 3) := by decide +kernel
theorem dX3_layRow_15 : decode cX3_layRow 15 = .ok (.iload_n 3, 1) := by decide +kernel
theorem dX3_layRow_16 : decode cX3_layRow 16 = .ok (.iload 6, 2) := by decide +kernel
theorem dX3_layRow_18 : decode cX3_layRow 18 = .ok (.invokestatic 29, 3) := by decide +kernel
theorem dX3_layRow_21 : decode cX3_layRow 21 = .ok (.ifCond .eq 22, 3) := by decide +kernel
theorem dX3_layRow_24 : decode cX3_layRow 24 = .ok (.aload 4, 2) := by decide +kernel
theorem dX3_layRow_26 : decode cX3_layRow 26 = .ok (.iload_n 2, 1) := by decide +kernel
theorem dX3_layRow_27 : decode cX3_layRow 27 = .ok (.iload 5, 2) := by decide +kernel
theorem dX3_layRow_29 : decode cX3_layRow 29 = .ok (.aload_n 0, 1) := by decide +kernel
theorem dX3_layRow_30 : decode cX3_layRow 30 = .ok (.iload_n 1, 1) := by decide +kernel
theorem dX3_layRow_31 : decode cX3_layRow 31 = .ok (.iload 6, 2) := by decide +kernel
theorem dX3_layRow_33 : decode cX3_layRow 33 = .ok (.invokevirtual 47, 3) := by decide +kernel
theorem dX3_layRow_36 : decode cX3_layRow 36 = .ok (.i2l, 1) := by decide +kernel
theorem dX3_layRow_37 : decode cX3_layRow 37 = .ok (.invokevirtual 39, 3) := by decide +kernel
theorem dX3_layRow_40 : decode cX3_layRow 40 = .ok (.iinc 5 1, 3) := by decide +kernel
theorem dX3_layRow_43 : decode cX3_layRow 43 = .ok (.iinc 6 1, 3) := by decide +kernel
theorem dX3_layRow_46 : decode cX3_layRow 46 = .ok (.goto (-40), 3) := by decide +kernel
theorem dX3_layRow_49 : decode cX3_layRow 49 = .ok (.return_, 1) := by decide +kernel
end
section
set_option maxRecDepth 20000 in
theorem ggX4_init_X3_init : GoodIn wsX4_init wsX3_init := goodIn_r _ [34, 35, 2, 3, 36, 37, 38, 65, 66] (by decide +kernel) (by decide +kernel)
set_option maxRecDepth 20000 in
theorem gX4_init_X3_init : GoodIn wsX4_init (wsX3_init) := ggX4_init_X3_init
set_option maxRecDepth 20000 in
theorem ggX4_init_X0_init : GoodIn wsX4_init wsX0_init := goodIn_r _ [41, 42, 2, 3, 25, 43, 67, 68, 69] (by decide +kernel) (by decide +kernel)
set_option maxRecDepth 20000 in
theorem gX4_init_X0_init : GoodIn wsX4_init (wsX0_init) := ggX4_init_X0_init
set_option maxRecDepth 20000 in
theorem ggX4_init_X1_init : GoodIn wsX4_init wsX1_init := goodIn_r _ [46, 47, 2, 3, 48, 37, 49, 50, 51, 70, 71, 72, 73] (by decide +kernel) (by decide +kernel)
set_option maxRecDepth 20000 in
theorem gX4_init_X1_init : GoodIn wsX4_init (wsX1_init) := ggX4_init_X1_init
set_option maxRecDepth 20000 in
theorem ggX4_init_X2_init : GoodIn wsX4_init wsX2_init := goodIn_r _ [53, 54, 2, 3, 25, 55, 56, 74, 75, 76] (by decide +kernel) (by decide +kernel)
set_option maxRecDepth 20000 in
theorem gX4_init_X2_init_n57 : GoodIn wsX4_init (wsX2_init) := ggX4_init_X2_init
theorem dX4_init_0 : decode cX4_init 0 = .ok (.aload_n 0, 1) := by decide +kernel
theorem dX4_init_1 : decode cX4_init 1 = .ok (.invokespecial 1, 3) := by decide +kernel
theorem dX4_init_4 : decode cX4_init 4 = .ok (.aload_n 0, 1) := by decide +kernel
theorem dX4_init_5 : decode cX4_init 5 = .ok (.iconst 2, 1) := by decide +kernel
theorem dX4_init_6 : decode cX4_init 6 = .ok (.bipush 6, 2) := by decide +kernel
theorem dX4_init_8 : decode cX4_init 8 = .ok (.iload_n 1, 1) := by decide +kernel
theorem dX4_init_9 : decode cX4_init 9 = .ok (.invokestatic 9, 3) := by decide +kernel
theorem dX4_init_12 : decode cX4_init 12 = .ok (.invokestatic 15, 3) := by decide +kernel
theorem dX4_init_15 : decode cX4_init 15 = .ok (.putfield 18, 3) := by decide +kernel
theorem dX4_init_18 : decode cX4_init 18 = .ok (.aload_n 0, 1) := by decide +kernel
theorem dX4_init_19 : decode cX4_init 19 = .ok (.iconst 1, 1) := by decide +kernel
theorem dX4_init_20 : decode cX4_init 20 = .ok (.aload_n 0, 1) := by decide +kernel
theorem dX4_init_21 : decode cX4_init 21 = .ok (.getfield 18, 3) := by decide +kernel
theorem dX4_init_24 : decode cX4_init 24 = .ok (.ishl, 1) := by decide +kernel
theorem dX4_init_25 : decode cX4_init 25 = .ok (.putfield 22, 3) := by decide +kernel
theorem dX4_init_28 : decode cX4_init 28 = .ok (.aload_n 0, 1) := by decide +kernel
theorem dX4_init_29 : decode cX4_init 29 = .ok (.bipush 6, 2) := by decide +kernel
theorem dX4_init_31 : decode cX4_init 31 = .ok (.anewarray 25, 3) := by decide +kernel
theorem dX4_init_34 : decode cX4_init 34 = .ok (.putfield 27, 3) := by decide +kernel
theorem dX4_init_37 : decode cX4_init 37 = .ok (.aload_n 0, 1) := by decide +kernel
theorem dX4_init_38 : decode cX4_init 38 = .ok (.bipush 6, 2) := by decide +kernel
theorem dX4_init_40 : decode cX4_init 40 = .ok (.anewarray 31, 3) := by decide +kernel
theorem dX4_init_43 : decode cX4_init 43 = .ok (.putfield 33, 3) := by decide +kernel
theorem dX4_init_46 : decode cX4_init 46 = .ok (.iconst 0, 1) := by decide +kernel
theorem dX4_init_47 : decode cX4_init 47 = .ok (.istore_n 2, 1) := by decide +kernel
theorem dX4_init_48 : decode cX4_init 48 = .ok (.iload_n 2, 1) := by decide +kernel
theorem dX4_init_49 : decode cX4_init 49 = .ok (.bipush 6, 2) := by decide +kernel
theorem dX4_init_51 : decode cX4_init 51 = .ok (.if_icmp .ge 43, 3) := by decide +kernel
theorem dX4_init_54 : decode cX4_init 54 = .ok (.aload_n 0, 1) := by decide +kernel
theorem dX4_init_55 : decode cX4_init 55 = .ok (.getfield 27, 3) := by decide +kernel
theorem dX4_init_58 : decode cX4_init 58 = .ok (.iload_n 2, 1) := by decide +kernel
theorem dX4_init_59 : decode cX4_init 59 = .ok (.new 25, 3) := by decide +kernel
theorem dX4_init_62 : decode cX4_init 62 = .ok (.dup, 1) := by decide +kernel
theorem dX4_init_63 : decode cX4_init 63 = .ok (.aload_n 0, 1) := by decide +kernel
theorem dX4_init_64 : decode cX4_init 64 = .ok (.getfield 18, 3) := by decide +kernel
theorem dX4_init_67 : decode cX4_init 67 = .ok (.invokespecial 37, 3) := by decide +kernel
theorem dX4_init_70 : decode cX4_init 70 = .ok (.aastore, 1) := by decide +kernel
theorem dX4_init_71 : decode cX4_init 71 = .ok (.aload_n 0, 1) := by decide +kernel
theorem dX4_init_72 : decode cX4_init 72 = .ok (.getfield 33, 3) := by decide +kernel
theorem dX4_init_75 : decode cX4_init 75 = .ok (.iload_n 2, 1) := by decide +kernel
theorem dX4_init_76 : decode cX4_init 76 = .ok (.new 31, 3) := by decide +kernel
theorem dX4_init_79 : decode cX4_init 79 = .ok (.dup, 1) := by decide +kernel
theorem dX4_init_80 : decode cX4_init 80 = .ok (.aload_n 0, 1) := by decide +kernel
theorem dX4_init_81 : decode cX4_init 81 = .ok (.getfield 22, 3) := by decide +kernel
theorem dX4_init_84 : decode cX4_init 84 = .ok (.invokespecial 40, 3) := by decide +kernel
theorem dX4_init_87 : decode cX4_init 87 = .ok (.aastore, 1) := by decide +kernel
theorem dX4_init_88 : decode cX4_init 88 = .ok (.iinc 2 1, 3) := by decide +kernel
theorem dX4_init_91 : decode cX4_init 91 = .ok (.goto (-43), 3) := by decide +kernel
theorem dX4_init_94 : decode cX4_init 94 = .ok (.aload_n 0, 1) := by decide +kernel
theorem dX4_init_95 : decode cX4_init 95 = .ok (.new 41, 3) := by decide +kernel
theorem dX4_init_98 : decode cX4_init 98 = .ok (.dup, 1) := by decide +kernel
theorem dX4_init_99 : decode cX4_init 99 = .ok (.aload_n 0, 1) := by decide +kernel
theorem dX4_init_100 : decode cX4_init 100 = .ok (.getfield 18, 3) := by decide +kernel
theorem dX4_init_103 : decode cX4_init 103 = .ok (.invokespecial 43, 3) := by decide +kernel
theorem dX4_init_106 : decode cX4_init 106 = .ok (.putfield 44, 3) := by decide +kernel
theorem dX4_init_109 : decode cX4_init 109 = .ok (.aload_n 0, 1) := by decide +kernel
theorem dX4_init_110 : decode cX4_init 110 = .ok (.aload_n 0, 1) := by decide +kernel
theorem dX4_init_111 : decode cX4_init 111 = .ok (.getfield 22, 3) := by decide +kernel
theorem dX4_init_114 : decode cX4_init 114 = .ok (.newarray .long, 2) := by decide +kernel
theorem dX4_init_116 : decode cX4_init 116 = .ok (.putfield 48, 3) := by decide +kernel
theorem dX4_init_119 : decode cX4_init 119 = .ok (.aload_n 0, 1) := by decide +kernel
theorem dX4_init_120 : decode cX4_init 120 = .ok (.aload_n 0, 1) := by decide +kernel
theorem dX4_init_121 : decode cX4_init 121 = .ok (.getfield 22, 3) := by decide +kernel
theorem dX4_init_124 : decode cX4_init 124 = .ok (.newarray .long, 2) := by decide +kernel
theorem dX4_init_126 : decode cX4_init 126 = .ok (.putfield 52, 3) := by decide +kernel
theorem dX4_init_129 : decode cX4_init 129 = .ok (.aload_n 0, 1) := by decide +kernel
theorem dX4_init_130 : decode cX4_init 130 = .ok (.new 55, 3) := by decide +kernel
theorem dX4_init_133 : decode cX4_init 133 = .ok (.dup, 1) := by decide +kernel
theorem dX4_init_134 : decode cX4_init 134 = .ok (.invokespecial 57, 3) := by decide +kernel
theorem dX4_init_137 : decode cX4_init 137 = .ok (.putfield 58, 3) := by decide +kernel
theorem dX4_init_140 : decode cX4_init 140 = .ok (.return_, 1) := by decide +kernel
set_option maxRecDepth 20000 in
theorem ggX4_entry_X4_isPlace : GoodIn wsX4_entry wsX4_isPlace := goodIn_r _ [5, 6, 7, 4, 8] (by decide +kernel) (by decide +kernel)
set_option maxRecDepth 20000 in
theorem gX4_entry_X4_isPlace : GoodIn wsX4_entry (va_wsS RX4 62 yX4_isPlace wsX4_isPlace) := goodIn_app (goodIn_of _ (by decide +kernel)) ggX4_entry_X4_isPlace
set_option maxRecDepth 20000 in
theorem ggX4_entry_X4_isThing : GoodIn wsX4_entry wsX4_isThing := goodIn_r _ [12, 13, 6, 7, 4, 8, 21, 22, 23, 24, 25, 26, 27, 28] (by decide +kernel) (by decide +kernel)
set_option maxRecDepth 20000 in
theorem gX4_entry_X4_isThing : GoodIn wsX4_entry (wsV RX4 66 RX4 yX4_isThing wsX4_isThing) := goodIn_app (goodIn_of _ (by decide +kernel)) ggX4_entry_X4_isThing
set_option maxRecDepth 20000 in
theorem ggX4_entry_X4_isAmong : GoodIn wsX4_entry wsX4_isAmong := goodIn_r _ [8] (by decide +kernel) (by decide +kernel)
set_option maxRecDepth 20000 in
theorem gX4_entry_X4_isAmong : GoodIn wsX4_entry (va_wsS RX4 69 yX4_isAmong wsX4_isAmong) := goodIn_app (goodIn_of _ (by decide +kernel)) ggX4_entry_X4_isAmong
set_option maxRecDepth 20000 in
theorem ggX4_entry_X3_put : GoodIn wsX4_entry wsX3_put := goodIn_r _ [18, 19, 20, 29, 30] (by decide +kernel) (by decide +kernel)
set_option maxRecDepth 20000 in
theorem gX4_entry_X3_put : GoodIn wsX4_entry (wsV RX4 73 RX3 yX3_put wsX3_put) := goodIn_app (goodIn_of _ (by decide +kernel)) ggX4_entry_X3_put
theorem dX4_entry_0 : decode cX4_entry 0 = .ok (.iload_n 1, 1) := by decide +kernel
theorem dX4_entry_1 : decode cX4_entry 1 = .ok (.invokestatic 62, 3) := by decide +kernel
theorem dX4_entry_4 : decode cX4_entry 4 = .ok (.ifCond .eq 30, 3) := by decide +kernel
theorem dX4_entry_7 : decode cX4_entry 7 = .ok (.aload_n 0, 1) := by decide +kernel
theorem dX4_entry_8 : decode cX4_entry 8 = .ok (.iload_n 2, 1) := by decide +kernel
theorem dX4_entry_9 : decode cX4_entry 9 = .ok (.invokevirtual 66, 3) := by decide +kernel
theorem dX4_entry_12 : decode cX4_entry 12 = .ok (.ifCond .eq 22, 3) := by decide +kernel
theorem dX4_entry_15 : decode cX4_entry 15 = .ok (.aload_n 0, 1) := by decide +kernel
theorem dX4_entry_16 : decode cX4_entry 16 = .ok (.iload_n 3, 1) := by decide +kernel
theorem dX4_entry_17 : decode cX4_entry 17 = .ok (.invokevirtual 66, 3) := by decide +kernel
theorem dX4_entry_20 : decode cX4_entry 20 = .ok (.ifCond .eq 14, 3) := by decide +kernel
theorem dX4_entry_23 : decode cX4_entry 23 = .ok (.iload 4, 2) := by decide +kernel
theorem dX4_entry_25 : decode cX4_entry 25 = .ok (.bipush (-5), 2) := by decide +kernel
theorem dX4_entry_27 : decode cX4_entry 27 = .ok (.iconst 5, 1) := by decide +kernel
theorem dX4_entry_28 : decode cX4_entry 28 = .ok (.invokestatic 69, 3) := by decide +kernel
theorem dX4_entry_31 : decode cX4_entry 31 = .ok (.ifCond .ne 5, 3) := by decide +kernel
theorem dX4_entry_34 : decode cX4_entry 34 = .ok (.iconst 0, 1) := by decide +kernel
theorem dX4_entry_35 : decode cX4_entry 35 = .ok (.ireturn, 1) := by decide +kernel
theorem dX4_entry_36 : decode cX4_entry 36 = .ok (.aload_n 0, 1) := by decide +kernel
theorem dX4_entry_37 : decode cX4_entry 37 = .ok (.getfield 27, 3) := by decide +kernel
theorem dX4_entry_40 : decode cX4_entry 40 = .ok (.iload_n 1, 1) := by decide +kernel
theorem dX4_entry_41 : decode cX4_entry 41 = .ok (.aaload, 1) := by decide +kernel
theorem dX4_entry_42 : decode cX4_entry 42 = .ok (.iload_n 2, 1) := by decide +kernel
theorem dX4_entry_43 : decode cX4_entry 43 = .ok (.iload_n 3, 1) := by decide +kernel
theorem dX4_entry_44 : decode cX4_entry 44 = .ok (.iload 4, 2) := by decide +kernel
theorem dX4_entry_46 : decode cX4_entry 46 = .ok (.invokevirtual 73, 3) := by decide +kernel
theorem dX4_entry_49 : decode cX4_entry 49 = .ok (.iconst 1, 1) := by decide +kernel
theorem dX4_entry_50 : decode cX4_entry 50 = .ok (.ireturn, 1) := by decide +kernel
set_option maxRecDepth 20000 in
theorem ggX4_told_X4_isPlace : GoodIn wsX4_told wsX4_isPlace := goodIn_r _ [5, 6, 7, 4, 8] (by decide +kernel) (by decide +kernel)
set_option maxRecDepth 20000 in
theorem gX4_told_X4_isPlace : GoodIn wsX4_told (va_wsS RX4 62 yX4_isPlace wsX4_isPlace) := goodIn_app (goodIn_of _ (by decide +kernel)) ggX4_told_X4_isPlace
set_option maxRecDepth 20000 in
theorem ggX4_told_X4_isThing : GoodIn wsX4_told wsX4_isThing := goodIn_r _ [12, 13, 6, 7, 4, 8, 21, 22, 23, 24, 25, 26, 27, 28] (by decide +kernel) (by decide +kernel)
set_option maxRecDepth 20000 in
theorem gX4_told_X4_isThing : GoodIn wsX4_told (wsV RX4 66 RX4 yX4_isThing wsX4_isThing) := goodIn_app (goodIn_of _ (by decide +kernel)) ggX4_told_X4_isThing
set_option maxRecDepth 20000 in
theorem ggX4_told_X3_at : GoodIn wsX4_told wsX3_at := goodIn_r _ [18, 19, 20, 29, 30] (by decide +kernel) (by decide +kernel)
set_option maxRecDepth 20000 in
theorem gX4_told_X3_at : GoodIn wsX4_told (wsV RX4 77 RX3 yX3_at wsX3_at) := goodIn_app (goodIn_of _ (by decide +kernel)) ggX4_told_X3_at
theorem dX4_told_0 : decode cX4_told 0 = .ok (.iload_n 1, 1) := by decide +kernel
theorem dX4_told_1 : decode cX4_told 1 = .ok (.invokestatic 62, 3) := by decide +kernel
theorem dX4_told_4 : decode cX4_told 4 = .ok (.ifCond .eq 19, 3) := by decide +kernel
theorem dX4_told_7 : decode cX4_told 7 = .ok (.aload_n 0, 1) := by decide +kernel
theorem dX4_told_8 : decode cX4_told 8 = .ok (.iload_n 2, 1) := by decide +kernel
theorem dX4_told_9 : decode cX4_told 9 = .ok (.invokevirtual 66, 3) := by decide +kernel
theorem dX4_told_12 : decode cX4_told 12 = .ok (.ifCond .eq 11, 3) := by decide +kernel
theorem dX4_told_15 : decode cX4_told 15 = .ok (.aload_n 0, 1) := by decide +kernel
theorem dX4_told_16 : decode cX4_told 16 = .ok (.iload_n 3, 1) := by decide +kernel
theorem dX4_told_17 : decode cX4_told 17 = .ok (.invokevirtual 66, 3) := by decide +kernel
theorem dX4_told_20 : decode cX4_told 20 = .ok (.ifCond .ne 6, 3) := by decide +kernel
theorem dX4_told_23 : decode cX4_told 23 = .ok (.bipush (-10), 2) := by decide +kernel
theorem dX4_told_25 : decode cX4_told 25 = .ok (.ireturn, 1) := by decide +kernel
theorem dX4_told_26 : decode cX4_told 26 = .ok (.aload_n 0, 1) := by decide +kernel
theorem dX4_told_27 : decode cX4_told 27 = .ok (.getfield 27, 3) := by decide +kernel
theorem dX4_told_30 : decode cX4_told 30 = .ok (.iload_n 1, 1) := by decide +kernel
theorem dX4_told_31 : decode cX4_told 31 = .ok (.aaload, 1) := by decide +kernel
theorem dX4_told_32 : decode cX4_told 32 = .ok (.iload_n 2, 1) := by decide +kernel
theorem dX4_told_33 : decode cX4_told 33 = .ok (.iload_n 3, 1) := by decide +kernel
theorem dX4_told_34 : decode cX4_told 34 = .ok (.invokevirtual 77, 3) := by decide +kernel
theorem dX4_told_37 : decode cX4_told 37 = .ok (.ireturn, 1) := by decide +kernel
set_option maxRecDepth 20000 in
theorem ggX4_worth_X4_isPlace : GoodIn wsX4_worth wsX4_isPlace := goodIn_r _ [6, 7, 8, 5, 9] (by decide +kernel) (by decide +kernel)
set_option maxRecDepth 20000 in
theorem gX4_worth_X4_isPlace : GoodIn wsX4_worth (va_wsS RX4 62 yX4_isPlace wsX4_isPlace) := goodIn_app (goodIn_of _ (by decide +kernel)) ggX4_worth_X4_isPlace
set_option maxRecDepth 20000 in
theorem ggX4_worth_X4_isSet : GoodIn wsX4_worth wsX4_isSet := goodIn_r _ [13, 14, 7, 8, 5, 9, 67, 68, 69, 70, 71, 72, 73, 74] (by decide +kernel) (by decide +kernel)
set_option maxRecDepth 20000 in
theorem gX4_worth_X4_isSet : GoodIn wsX4_worth (wsV RX4 80 RX4 yX4_isSet wsX4_isSet) := goodIn_app (goodIn_of _ (by decide +kernel)) ggX4_worth_X4_isSet
set_option maxRecDepth 20000 in
theorem ggX4_worth_X3_worthOf : GoodIn wsX4_worth wsX3_worthOf := goodIn_r _ [19, 20, 21, 22, 23, 24, 25, 26, 27, 28, 29, 30, 31, 32, 33, 34, 35, 36, 37, 38, 39, 40, 41, 42, 5, 43, 44, 45, 46, 18, 47, 48, 49, 50, 51, 52, 53, 54, 55, 56, 8, 9, 57, 58, 59, 60, 61, 62, 63, 64, 65, 66, 75, 76, 77, 78, 79] (by decide +kernel) (by decide +kernel)
set_option maxRecDepth 20000 in
theorem gX4_worth_X3_worthOf : GoodIn wsX4_worth (wsV RX4 83 RX3 yX3_worthOf wsX3_worthOf) := goodIn_app (goodIn_of _ (by decide +kernel)) ggX4_worth_X3_worthOf
theorem dX4_worth_0 : decode cX4_worth 0 = .ok (.iload_n 1, 1) := by decide +kernel
theorem dX4_worth_1 : decode cX4_worth 1 = .ok (.invokestatic 62, 3) := by decide +kernel
theorem dX4_worth_4 : decode cX4_worth 4 = .ok (.ifCond .eq 11, 3) := by decide +kernel
theorem dX4_worth_7 : decode cX4_worth 7 = .ok (.aload_n 0, 1) := by decide +kernel
theorem dX4_worth_8 : decode cX4_worth 8 = .ok (.iload_n 2, 1) := by decide +kernel
theorem dX4_worth_9 : decode cX4_worth 9 = .ok (.invokevirtual 80, 3) := by decide +kernel
theorem dX4_worth_12 : decode cX4_worth 12 = .ok (.ifCond .ne 5, 3) := by decide +kernel
theorem dX4_worth_15 : decode cX4_worth 15 = .ok (.lconst 0, 1) := by decide +kernel
theorem dX4_worth_16 : decode cX4_worth 16 = .ok (.lreturn, 1) := by decide +kernel
theorem dX4_worth_17 : decode cX4_worth 17 = .ok (.aload_n 0, 1) := by decide +kernel
theorem dX4_worth_18 : decode cX4_worth 18 = .ok (.getfield 27, 3) := by decide +kernel
theorem dX4_worth_21 : decode cX4_worth 21 = .ok (.iload_n 1, 1) := by decide +kernel
theorem dX4_worth_22 : decode cX4_worth 22 = .ok (.aaload, 1) := by decide +kernel
theorem dX4_worth_23 : decode cX4_worth 23 = .ok (.iload_n 2, 1) := by decide +kernel
theorem dX4_worth_24 : decode cX4_worth 24 = .ok (.iconst 0, 1) := by decide +kernel
theorem dX4_worth_25 : decode cX4_worth 25 = .ok (.aload_n 0, 1) := by decide +kernel
theorem dX4_worth_26 : decode cX4_worth 26 = .ok (.getfield 58, 3) := by decide +kernel
theorem dX4_worth_29 : decode cX4_worth 29 = .ok (.invokevirtual 83, 3) := by decide +kernel
theorem dX4_worth_32 : decode cX4_worth 32 = .ok (.lreturn, 1) := by decide +kernel
set_option maxRecDepth 20000 in
theorem ggX4_why_X4_isPlace : GoodIn wsX4_why wsX4_isPlace := goodIn_r _ [5, 6, 7, 4, 8] (by decide +kernel) (by decide +kernel)
set_option maxRecDepth 20000 in
theorem gX4_why_X4_isPlace : GoodIn wsX4_why (va_wsS RX4 62 yX4_isPlace wsX4_isPlace) := goodIn_app (goodIn_of _ (by decide +kernel)) ggX4_why_X4_isPlace
set_option maxRecDepth 20000 in
theorem ggX4_why_X4_draftWorths : GoodIn wsX4_why wsX4_draftWorths := goodIn_r _ [12, 13, 14, 15, 16, 17, 18, 19, 20, 21, 22, 23, 24, 25, 26, 27, 28, 29, 30, 31, 32, 33, 34, 35, 36, 37, 38, 39, 40, 41, 42, 43, 4, 44, 45, 46, 47, 48, 49, 50, 51, 52, 53, 54, 55, 56, 57, 7, 8, 58, 59, 60, 61, 62, 63, 64, 65, 66, 67, 68, 69, 70, 71, 72, 73, 74, 75, 76, 77, 78, 79, 80] (by decide +kernel) (by decide +kernel)
set_option maxRecDepth 20000 in
theorem gX4_why_X4_draftWorths : GoodIn wsX4_why (wsV RX4 87 RX4 yX4_draftWorths wsX4_draftWorths) := goodIn_app (goodIn_of _ (by decide +kernel)) ggX4_why_X4_draftWorths
theorem dX4_why_0 : decode cX4_why 0 = .ok (.iload_n 1, 1) := by decide +kernel
theorem dX4_why_1 : decode cX4_why 1 = .ok (.invokestatic 62, 3) := by decide +kernel
theorem dX4_why_4 : decode cX4_why 4 = .ok (.ifCond .ne 5, 3) := by decide +kernel
theorem dX4_why_7 : decode cX4_why 7 = .ok (.iconst (-1), 1) := by decide +kernel
theorem dX4_why_8 : decode cX4_why 8 = .ok (.ireturn, 1) := by decide +kernel
theorem dX4_why_9 : decode cX4_why 9 = .ok (.aload_n 0, 1) := by decide +kernel
theorem dX4_why_10 : decode cX4_why 10 = .ok (.aload_n 0, 1) := by decide +kernel
theorem dX4_why_11 : decode cX4_why 11 = .ok (.getfield 27, 3) := by decide +kernel
theorem dX4_why_14 : decode cX4_why 14 = .ok (.iload_n 1, 1) := by decide +kernel
theorem dX4_why_15 : decode cX4_why 15 = .ok (.aaload, 1) := by decide +kernel
theorem dX4_why_16 : decode cX4_why 16 = .ok (.invokevirtual 87, 3) := by decide +kernel
theorem dX4_why_19 : decode cX4_why 19 = .ok (.ireturn, 1) := by decide +kernel
set_option maxRecDepth 20000 in
theorem ggX4_whole_X4_isPlace : GoodIn wsX4_whole wsX4_isPlace := goodIn_r _ [7, 8, 9, 6, 10] (by decide +kernel) (by decide +kernel)
set_option maxRecDepth 20000 in
theorem gX4_whole_X4_isPlace : GoodIn wsX4_whole (va_wsS RX4 62 yX4_isPlace wsX4_isPlace) := goodIn_app (goodIn_of _ (by decide +kernel)) ggX4_whole_X4_isPlace
set_option maxRecDepth 20000 in
theorem ggX4_whole_X3_worthOf : GoodIn wsX4_whole wsX3_worthOf := goodIn_r _ [15, 16, 17, 18, 19, 20, 21, 22, 23, 24, 25, 26, 27, 28, 29, 30, 31, 32, 33, 34, 35, 36, 37, 38, 6, 39, 40, 41, 42, 14, 43, 44, 45, 46, 47, 48, 49, 50, 51, 52, 9, 10, 53, 54, 55, 56, 57, 58, 59, 60, 61, 62, 71, 72, 73, 74, 75] (by decide +kernel) (by decide +kernel)
set_option maxRecDepth 20000 in
theorem gX4_whole_X3_worthOf : GoodIn wsX4_whole (wsV RX4 83 RX3 yX3_worthOf wsX3_worthOf) := goodIn_app (goodIn_of _ (by decide +kernel)) ggX4_whole_X3_worthOf
theorem dX4_whole_0 : decode cX4_whole 0 = .ok (.iload_n 1, 1) := by decide +kernel
theorem dX4_whole_1 : decode cX4_whole 1 = .ok (.invokestatic 62, 3) := by decide +kernel
theorem dX4_whole_4 : decode cX4_whole 4 = .ok (.ifCond .ne 5, 3) := by decide +kernel
theorem dX4_whole_7 : decode cX4_whole 7 = .ok (.lconst 0, 1) := by decide +kernel
theorem dX4_whole_8 : decode cX4_whole 8 = .ok (.lreturn, 1) := by decide +kernel
theorem dX4_whole_9 : decode cX4_whole 9 = .ok (.aload_n 0, 1) := by decide +kernel
theorem dX4_whole_10 : decode cX4_whole 10 = .ok (.getfield 27, 3) := by decide +kernel
theorem dX4_whole_13 : decode cX4_whole 13 = .ok (.iload_n 1, 1) := by decide +kernel
theorem dX4_whole_14 : decode cX4_whole 14 = .ok (.aaload, 1) := by decide +kernel
theorem dX4_whole_15 : decode cX4_whole 15 = .ok (.aload_n 0, 1) := by decide +kernel
theorem dX4_whole_16 : decode cX4_whole 16 = .ok (.getfield 22, 3) := by decide +kernel
theorem dX4_whole_19 : decode cX4_whole 19 = .ok (.iconst 1, 1) := by decide +kernel
theorem dX4_whole_20 : decode cX4_whole 20 = .ok (.isub, 1) := by decide +kernel
theorem dX4_whole_21 : decode cX4_whole 21 = .ok (.iconst 1, 1) := by decide +kernel
theorem dX4_whole_22 : decode cX4_whole 22 = .ok (.aload_n 0, 1) := by decide +kernel
theorem dX4_whole_23 : decode cX4_whole 23 = .ok (.getfield 58, 3) := by decide +kernel
theorem dX4_whole_26 : decode cX4_whole 26 = .ok (.invokevirtual 83, 3) := by decide +kernel
theorem dX4_whole_29 : decode cX4_whole 29 = .ok (.lreturn, 1) := by decide +kernel
set_option maxRecDepth 20000 in
theorem ggX4_shun_X4_isPlace : GoodIn wsX4_shun wsX4_isPlace := goodIn_r _ [5, 6, 7, 4, 8] (by decide +kernel) (by decide +kernel)
set_option maxRecDepth 20000 in
theorem gX4_shun_X4_isPlace : GoodIn wsX4_shun (va_wsS RX4 62 yX4_isPlace wsX4_isPlace) := goodIn_app (goodIn_of _ (by decide +kernel)) ggX4_shun_X4_isPlace
set_option maxRecDepth 20000 in
theorem ggX4_shun_X4_draftWorths : GoodIn wsX4_shun wsX4_draftWorths := goodIn_r _ [12, 13, 14, 15, 16, 17, 18, 19, 20, 21, 22, 23, 24, 25, 26, 27, 28, 29, 30, 31, 32, 33, 34, 35, 36, 37, 38, 39, 40, 41, 42, 43, 4, 44, 45, 46, 47, 48, 49, 50, 51, 52, 53, 54, 55, 56, 57, 7, 8, 58, 59, 60, 61, 62, 63, 64, 65, 66, 67, 85, 86, 87, 88, 89, 90, 91, 92, 93, 94, 95, 96, 97] (by decide +kernel) (by decide +kernel)
set_option maxRecDepth 20000 in
theorem gX4_shun_X4_draftWorths : GoodIn wsX4_shun (wsV RX4 87 RX4 yX4_draftWorths wsX4_draftWorths) := goodIn_app (goodIn_of _ (by decide +kernel)) ggX4_shun_X4_draftWorths
set_option maxRecDepth 20000 in
theorem ggX4_shun_X4_settle : GoodIn wsX4_shun wsX4_settle := goodIn_r _ [71, 13, 14, 72, 73, 74, 75, 4, 76, 77, 78, 79, 80, 81, 82, 83, 84, 85, 86, 87, 88, 89, 90, 91, 92, 98, 99, 100] (by decide +kernel) (by decide +kernel)
set_option maxRecDepth 20000 in
theorem gX4_shun_X4_settle : GoodIn wsX4_shun (wsV RX4 91 RX4 yX4_settle wsX4_settle) := goodIn_app (goodIn_of _ (by decide +kernel)) ggX4_shun_X4_settle
theorem dX4_shun_0 : decode cX4_shun 0 = .ok (.iload_n 1, 1) := by decide +kernel
theorem dX4_shun_1 : decode cX4_shun 1 = .ok (.invokestatic 62, 3) := by decide +kernel
theorem dX4_shun_4 : decode cX4_shun 4 = .ok (.ifCond .eq 10, 3) := by decide +kernel
theorem dX4_shun_7 : decode cX4_shun 7 = .ok (.iload_n 2, 1) := by decide +kernel
theorem dX4_shun_8 : decode cX4_shun 8 = .ok (.invokestatic 62, 3) := by decide +kernel
theorem dX4_shun_11 : decode cX4_shun 11 = .ok (.ifCond .ne 5, 3) := by decide +kernel
theorem dX4_shun_14 : decode cX4_shun 14 = .ok (.iconst 0, 1) := by decide +kernel
theorem dX4_shun_15 : decode cX4_shun 15 = .ok (.ireturn, 1) := by decide +kernel
theorem dX4_shun_16 : decode cX4_shun 16 = .ok (.aload_n 0, 1) := by decide +kernel
theorem dX4_shun_17 : decode cX4_shun 17 = .ok (.aload_n 0, 1) := by decide +kernel
theorem dX4_shun_18 : decode cX4_shun 18 = .ok (.getfield 27, 3) := by decide +kernel
theorem dX4_shun_21 : decode cX4_shun 21 = .ok (.iload_n 1, 1) := by decide +kernel
theorem dX4_shun_22 : decode cX4_shun 22 = .ok (.aaload, 1) := by decide +kernel
theorem dX4_shun_23 : decode cX4_shun 23 = .ok (.invokevirtual 87, 3) := by decide +kernel
theorem dX4_shun_26 : decode cX4_shun 26 = .ok (.iconst (-1), 1) := by decide +kernel
theorem dX4_shun_27 : decode cX4_shun 27 = .ok (.if_icmp .ne 15, 3) := by decide +kernel
theorem dX4_shun_30 : decode cX4_shun 30 = .ok (.aload_n 0, 1) := by decide +kernel
theorem dX4_shun_31 : decode cX4_shun 31 = .ok (.iload_n 2, 1) := by decide +kernel
theorem dX4_shun_32 : decode cX4_shun 32 = .ok (.invokevirtual 91, 3) := by decide +kernel
theorem dX4_shun_35 : decode cX4_shun 35 = .ok (.ifCond .eq 7, 3) := by decide +kernel
theorem dX4_shun_38 : decode cX4_shun 38 = .ok (.iconst 1, 1) := by decide +kernel
theorem dX4_shun_39 : decode cX4_shun 39 = .ok (.goto 4, 3) := by decide +kernel
theorem dX4_shun_42 : decode cX4_shun 42 = .ok (.iconst 0, 1) := by decide +kernel
theorem dX4_shun_43 : decode cX4_shun 43 = .ok (.ireturn, 1) := by decide +kernel
set_option maxRecDepth 20000 in
theorem ggX4_edge_X4_isThing : GoodIn wsX4_edge wsX4_isThing := goodIn_r _ [6, 7, 8, 9, 5, 10, 22, 23, 24, 25, 26, 27, 28, 29] (by decide +kernel) (by decide +kernel)
set_option maxRecDepth 20000 in
theorem gX4_edge_X4_isThing : GoodIn wsX4_edge (wsV RX4 66 RX4 yX4_isThing wsX4_isThing) := goodIn_app (goodIn_of _ (by decide +kernel)) ggX4_edge_X4_isThing
set_option maxRecDepth 20000 in
theorem ggX4_edge_X4_isPost : GoodIn wsX4_edge wsX4_isPost := goodIn_r _ [13, 8, 9, 5, 10] (by decide +kernel) (by decide +kernel)
set_option maxRecDepth 20000 in
theorem gX4_edge_X4_isPost : GoodIn wsX4_edge (va_wsS RX4 94 yX4_isPost wsX4_isPost) := goodIn_app (goodIn_of _ (by decide +kernel)) ggX4_edge_X4_isPost
set_option maxRecDepth 20000 in
theorem ggX4_edge_X4_isAmong : GoodIn wsX4_edge wsX4_isAmong := goodIn_r _ [10] (by decide +kernel) (by decide +kernel)
set_option maxRecDepth 20000 in
theorem gX4_edge_X4_isAmong : GoodIn wsX4_edge (va_wsS RX4 69 yX4_isAmong wsX4_isAmong) := goodIn_app (goodIn_of _ (by decide +kernel)) ggX4_edge_X4_isAmong
set_option maxRecDepth 20000 in
theorem ggX4_edge_X1_put : GoodIn wsX4_edge wsX1_put := goodIn_r _ [18, 19, 20, 21, 30, 31, 32, 33] (by decide +kernel) (by decide +kernel)
set_option maxRecDepth 20000 in
theorem gX4_edge_X1_put : GoodIn wsX4_edge (wsV RX4 97 RX1 yX1_put wsX1_put) := goodIn_app (goodIn_of _ (by decide +kernel)) ggX4_edge_X1_put
theorem dX4_edge_0 : decode cX4_edge 0 = .ok (.aload_n 0, 1) := by decide +kernel
theorem dX4_edge_1 : decode cX4_edge 1 = .ok (.iload_n 1, 1) := by decide +kernel
theorem dX4_edge_2 : decode cX4_edge 2 = .ok (.invokevirtual 66, 3) := by decide +kernel
theorem dX4_edge_5 : decode cX4_edge 5 = .ok (.ifCond .eq 28, 3) := by decide +kernel
theorem dX4_edge_8 : decode cX4_edge 8 = .ok (.iload_n 2, 1) := by decide +kernel
theorem dX4_edge_9 : decode cX4_edge 9 = .ok (.invokestatic 94, 3) := by decide +kernel
theorem dX4_edge_12 : decode cX4_edge 12 = .ok (.ifCond .eq 21, 3) := by decide +kernel
theorem dX4_edge_15 : decode cX4_edge 15 = .ok (.iload_n 3, 1) := by decide +kernel
theorem dX4_edge_16 : decode cX4_edge 16 = .ok (.invokestatic 94, 3) := by decide +kernel
theorem dX4_edge_19 : decode cX4_edge 19 = .ok (.ifCond .eq 14, 3) := by decide +kernel
theorem dX4_edge_22 : decode cX4_edge 22 = .ok (.iload 4, 2) := by decide +kernel
theorem dX4_edge_24 : decode cX4_edge 24 = .ok (.iconst 0, 1) := by decide +kernel
theorem dX4_edge_25 : decode cX4_edge 25 = .ok (.bipush 9, 2) := by decide +kernel
theorem dX4_edge_27 : decode cX4_edge 27 = .ok (.invokestatic 69, 3) := by decide +kernel
theorem dX4_edge_30 : decode cX4_edge 30 = .ok (.ifCond .ne 5, 3) := by decide +kernel
theorem dX4_edge_33 : decode cX4_edge 33 = .ok (.iconst 0, 1) := by decide +kernel
theorem dX4_edge_34 : decode cX4_edge 34 = .ok (.ireturn, 1) := by decide +kernel
theorem dX4_edge_35 : decode cX4_edge 35 = .ok (.aload_n 0, 1) := by decide +kernel
theorem dX4_edge_36 : decode cX4_edge 36 = .ok (.getfield 44, 3) := by decide +kernel
theorem dX4_edge_39 : decode cX4_edge 39 = .ok (.iload_n 1, 1) := by decide +kernel
theorem dX4_edge_40 : decode cX4_edge 40 = .ok (.iload_n 2, 1) := by decide +kernel
theorem dX4_edge_41 : decode cX4_edge 41 = .ok (.iload_n 3, 1) := by decide +kernel
theorem dX4_edge_42 : decode cX4_edge 42 = .ok (.iload 4, 2) := by decide +kernel
theorem dX4_edge_44 : decode cX4_edge 44 = .ok (.invokevirtual 97, 3) := by decide +kernel
theorem dX4_edge_47 : decode cX4_edge 47 = .ok (.iconst 1, 1) := by decide +kernel
theorem dX4_edge_48 : decode cX4_edge 48 = .ok (.ireturn, 1) := by decide +kernel
set_option maxRecDepth 20000 in
theorem ggX4_all_X4_isPosts : GoodIn wsX4_all wsX4_isPosts := goodIn_r _ [6, 7, 8, 5, 9] (by decide +kernel) (by decide +kernel)
set_option maxRecDepth 20000 in
theorem gX4_all_X4_isPosts : GoodIn wsX4_all (va_wsS RX4 100 yX4_isPosts wsX4_isPosts) := goodIn_app (goodIn_of _ (by decide +kernel)) ggX4_all_X4_isPosts
set_option maxRecDepth 20000 in
theorem ggX4_all_X1_sumOfTrees : GoodIn wsX4_all wsX1_sumOfTrees := goodIn_r _ [14, 15, 16, 17, 18, 19, 20, 21, 22, 23, 24, 25, 26, 27, 28, 29, 30, 31, 32, 33, 34, 35, 36, 8, 5, 9, 37, 38, 39, 40, 41, 42, 43, 44, 45, 46, 47, 48, 49, 50, 51, 52, 61, 62, 63, 64, 65, 66, 67] (by decide +kernel) (by decide +kernel)
set_option maxRecDepth 20000 in
theorem gX4_all_X1_sumOfTrees : GoodIn wsX4_all (wsV RX4 103 RX1 yX1_sumOfTrees wsX1_sumOfTrees) := goodIn_app (goodIn_of _ (by decide +kernel)) ggX4_all_X1_sumOfTrees
theorem dX4_all_0 : decode cX4_all 0 = .ok (.iload_n 1, 1) := by decide +kernel
theorem dX4_all_1 : decode cX4_all 1 = .ok (.invokestatic 100, 3) := by decide +kernel
theorem dX4_all_4 : decode cX4_all 4 = .ok (.ifCond .ne 5, 3) := by decide +kernel
theorem dX4_all_7 : decode cX4_all 7 = .ok (.lconst 0, 1) := by decide +kernel
theorem dX4_all_8 : decode cX4_all 8 = .ok (.lreturn, 1) := by decide +kernel
theorem dX4_all_9 : decode cX4_all 9 = .ok (.aload_n 0, 1) := by decide +kernel
theorem dX4_all_10 : decode cX4_all 10 = .ok (.getfield 44, 3) := by decide +kernel
theorem dX4_all_13 : decode cX4_all 13 = .ok (.iload_n 1, 1) := by decide +kernel
theorem dX4_all_14 : decode cX4_all 14 = .ok (.aload_n 0, 1) := by decide +kernel
theorem dX4_all_15 : decode cX4_all 15 = .ok (.getfield 58, 3) := by decide +kernel
theorem dX4_all_18 : decode cX4_all 18 = .ok (.invokevirtual 103, 3) := by decide +kernel
theorem dX4_all_21 : decode cX4_all 21 = .ok (.lreturn, 1) := by decide +kernel
set_option maxRecDepth 20000 in
theorem ggX4_trees_X4_isPosts : GoodIn wsX4_trees wsX4_isPosts := goodIn_r _ [7, 8, 9, 6, 10] (by decide +kernel) (by decide +kernel)
set_option maxRecDepth 20000 in
theorem gX4_trees_X4_isPosts : GoodIn wsX4_trees (va_wsS RX4 100 yX4_isPosts wsX4_isPosts) := goodIn_app (goodIn_of _ (by decide +kernel)) ggX4_trees_X4_isPosts
set_option maxRecDepth 20000 in
theorem ggX4_trees_X4_isPlace : GoodIn wsX4_trees wsX4_isPlace := goodIn_r _ [13, 8, 9, 6, 10] (by decide +kernel) (by decide +kernel)
set_option maxRecDepth 20000 in
theorem gX4_trees_X4_isPlace : GoodIn wsX4_trees (va_wsS RX4 62 yX4_isPlace wsX4_isPlace) := goodIn_app (goodIn_of _ (by decide +kernel)) ggX4_trees_X4_isPlace
set_option maxRecDepth 20000 in
theorem ggX4_trees_X1_isTree : GoodIn wsX4_trees wsX1_isTree := goodIn_r _ [18, 19, 20, 21, 22, 23, 24, 25, 26, 27, 28, 17, 29, 30, 31, 32, 33, 6, 34, 65, 66, 67, 68] (by decide +kernel) (by decide +kernel)
set_option maxRecDepth 20000 in
theorem gX4_trees_X1_isTree : GoodIn wsX4_trees (wsV RX4 107 RX1 yX1_isTree wsX1_isTree) := goodIn_app (goodIn_of _ (by decide +kernel)) ggX4_trees_X1_isTree
set_option maxRecDepth 20000 in
theorem ggX4_trees_X1_productOf : GoodIn wsX4_trees wsX1_productOf := goodIn_r _ [38, 30, 39, 33, 6, 34, 65, 66, 67, 68] (by decide +kernel) (by decide +kernel)
set_option maxRecDepth 20000 in
theorem gX4_trees_X1_productOf : GoodIn wsX4_trees (wsV RX4 111 RX1 yX1_productOf wsX1_productOf) := goodIn_app (goodIn_of _ (by decide +kernel)) ggX4_trees_X1_productOf
set_option maxRecDepth 20000 in
theorem ggX4_trees_X4_settle : GoodIn wsX4_trees wsX4_settle := goodIn_r _ [43, 1, 2, 44, 45, 46, 47, 6, 48, 49, 50, 51, 52, 53, 54, 55, 56, 57, 58, 59, 60, 61, 62, 63, 64, 69, 70, 71] (by decide +kernel) (by decide +kernel)
set_option maxRecDepth 20000 in
theorem gX4_trees_X4_settle : GoodIn wsX4_trees (wsV RX4 91 RX4 yX4_settle wsX4_settle) := goodIn_app (goodIn_of _ (by decide +kernel)) ggX4_trees_X4_settle
theorem dX4_trees_0 : decode cX4_trees 0 = .ok (.iload_n 1, 1) := by decide +kernel
theorem dX4_trees_1 : decode cX4_trees 1 = .ok (.invokestatic 100, 3) := by decide +kernel
theorem dX4_trees_4 : decode cX4_trees 4 = .ok (.ifCond .eq 10, 3) := by decide +kernel
theorem dX4_trees_7 : decode cX4_trees 7 = .ok (.iload_n 2, 1) := by decide +kernel
theorem dX4_trees_8 : decode cX4_trees 8 = .ok (.invokestatic 62, 3) := by decide +kernel
theorem dX4_trees_11 : decode cX4_trees 11 = .ok (.ifCond .ne 5, 3) := by decide +kernel
theorem dX4_trees_14 : decode cX4_trees 14 = .ok (.iconst 0, 1) := by decide +kernel
theorem dX4_trees_15 : decode cX4_trees 15 = .ok (.ireturn, 1) := by decide +kernel
theorem dX4_trees_16 : decode cX4_trees 16 = .ok (.iconst 0, 1) := by decide +kernel
theorem dX4_trees_17 : decode cX4_trees 17 = .ok (.istore_n 3, 1) := by decide +kernel
theorem dX4_trees_18 : decode cX4_trees 18 = .ok (.iload_n 3, 1) := by decide +kernel
theorem dX4_trees_19 : decode cX4_trees 19 = .ok (.aload_n 0, 1) := by decide +kernel
theorem dX4_trees_20 : decode cX4_trees 20 = .ok (.getfield 22, 3) := by decide +kernel
theorem dX4_trees_23 : decode cX4_trees 23 = .ok (.if_icmp .ge 39, 3) := by decide +kernel
theorem dX4_trees_26 : decode cX4_trees 26 = .ok (.aload_n 0, 1) := by decide +kernel
theorem dX4_trees_27 : decode cX4_trees 27 = .ok (.getfield 52, 3) := by decide +kernel
theorem dX4_trees_30 : decode cX4_trees 30 = .ok (.iload_n 3, 1) := by decide +kernel
theorem dX4_trees_31 : decode cX4_trees 31 = .ok (.aload_n 0, 1) := by decide +kernel
theorem dX4_trees_32 : decode cX4_trees 32 = .ok (.getfield 44, 3) := by decide +kernel
theorem dX4_trees_35 : decode cX4_trees 35 = .ok (.iload_n 3, 1) := by decide +kernel
theorem dX4_trees_36 : decode cX4_trees 36 = .ok (.iload_n 1, 1) := by decide +kernel
theorem dX4_trees_37 : decode cX4_trees 37 = .ok (.invokevirtual 107, 3) := by decide +kernel
theorem dX4_trees_40 : decode cX4_trees 40 = .ok (.ifCond .eq 14, 3) := by decide +kernel
theorem dX4_trees_43 : decode cX4_trees 43 = .ok (.aload_n 0, 1) := by decide +kernel
theorem dX4_trees_44 : decode cX4_trees 44 = .ok (.getfield 44, 3) := by decide +kernel
theorem dX4_trees_47 : decode cX4_trees 47 = .ok (.iload_n 3, 1) := by decide +kernel
theorem dX4_trees_48 : decode cX4_trees 48 = .ok (.invokevirtual 111, 3) := by decide +kernel
theorem dX4_trees_51 : decode cX4_trees 51 = .ok (.goto 4, 3) := by decide +kernel
theorem dX4_trees_54 : decode cX4_trees 54 = .ok (.lconst 0, 1) := by decide +kernel
theorem dX4_trees_55 : decode cX4_trees 55 = .ok (.lastore, 1) := by decide +kernel
theorem dX4_trees_56 : decode cX4_trees 56 = .ok (.iinc 3 1, 3) := by decide +kernel
theorem dX4_trees_59 : decode cX4_trees 59 = .ok (.goto (-41), 3) := by decide +kernel
theorem dX4_trees_62 : decode cX4_trees 62 = .ok (.aload_n 0, 1) := by decide +kernel
theorem dX4_trees_63 : decode cX4_trees 63 = .ok (.iload_n 2, 1) := by decide +kernel
theorem dX4_trees_64 : decode cX4_trees 64 = .ok (.invokevirtual 91, 3) := by decide +kernel
theorem dX4_trees_67 : decode cX4_trees 67 = .ok (.ireturn, 1) := by decide +kernel
set_option maxRecDepth 20000 in
theorem ggX4_tell_X4_isSet : GoodIn wsX4_tell wsX4_isSet := goodIn_r _ [7, 8, 9, 10, 6, 11, 12, 13, 14, 15, 16, 17, 18, 19] (by decide +kernel) (by decide +kernel)
set_option maxRecDepth 20000 in
theorem gX4_tell_X4_isSet : GoodIn wsX4_tell (wsV RX4 80 RX4 yX4_isSet wsX4_isSet) := goodIn_app (goodIn_of _ (by decide +kernel)) ggX4_tell_X4_isSet
theorem dX4_tell_0 : decode cX4_tell 0 = .ok (.aload_n 0, 1) := by decide +kernel
theorem dX4_tell_1 : decode cX4_tell 1 = .ok (.iload_n 1, 1) := by decide +kernel
theorem dX4_tell_2 : decode cX4_tell 2 = .ok (.invokevirtual 80, 3) := by decide +kernel
theorem dX4_tell_5 : decode cX4_tell 5 = .ok (.ifCond .eq 16, 3) := by decide +kernel
theorem dX4_tell_8 : decode cX4_tell 8 = .ok (.iload_n 2, 1) := by decide +kernel
theorem dX4_tell_9 : decode cX4_tell 9 = .ok (.ifCond .lt 12, 3) := by decide +kernel
theorem dX4_tell_12 : decode cX4_tell 12 = .ok (.iload_n 2, 1) := by decide +kernel
theorem dX4_tell_13 : decode cX4_tell 13 = .ok (.i2l, 1) := by decide +kernel
theorem dX4_tell_14 : decode cX4_tell 14 = .ok (.ldc2_w 115, 3) := by decide +kernel
theorem dX4_tell_17 : decode cX4_tell 17 = .ok (.lcmp, 1) := by decide +kernel
theorem dX4_tell_18 : decode cX4_tell 18 = .ok (.ifCond .le 5, 3) := by decide +kernel
theorem dX4_tell_21 : decode cX4_tell 21 = .ok (.iconst 0, 1) := by decide +kernel
theorem dX4_tell_22 : decode cX4_tell 22 = .ok (.ireturn, 1) := by decide +kernel
theorem dX4_tell_23 : decode cX4_tell 23 = .ok (.aload_n 0, 1) := by decide +kernel
theorem dX4_tell_24 : decode cX4_tell 24 = .ok (.getfield 48, 3) := by decide +kernel
theorem dX4_tell_27 : decode cX4_tell 27 = .ok (.iload_n 1, 1) := by decide +kernel
theorem dX4_tell_28 : decode cX4_tell 28 = .ok (.iload_n 2, 1) := by decide +kernel
theorem dX4_tell_29 : decode cX4_tell 29 = .ok (.i2l, 1) := by decide +kernel
theorem dX4_tell_30 : decode cX4_tell 30 = .ok (.lastore, 1) := by decide +kernel
theorem dX4_tell_31 : decode cX4_tell 31 = .ok (.iconst 1, 1) := by decide +kernel
theorem dX4_tell_32 : decode cX4_tell 32 = .ok (.ireturn, 1) := by decide +kernel
set_option maxRecDepth 20000 in
theorem ggX4_hand_X4_isPlace : GoodIn wsX4_hand wsX4_isPlace := goodIn_r _ [11, 12, 13, 10, 14] (by decide +kernel) (by decide +kernel)
set_option maxRecDepth 20000 in
theorem gX4_hand_X4_isPlace : GoodIn wsX4_hand (va_wsS RX4 62 yX4_isPlace wsX4_isPlace) := goodIn_app (goodIn_of _ (by decide +kernel)) ggX4_hand_X4_isPlace
set_option maxRecDepth 20000 in
theorem ggX4_hand_X4_settle : GoodIn wsX4_hand wsX4_settle := goodIn_r _ [18, 3, 2, 19, 20, 21, 22, 10, 23, 24, 25, 26, 27, 28, 29, 30, 31, 32, 33, 34, 35, 36, 37, 38, 39, 40, 41, 42] (by decide +kernel) (by decide +kernel)
set_option maxRecDepth 20000 in
theorem gX4_hand_X4_settle : GoodIn wsX4_hand (wsV RX4 91 RX4 yX4_settle wsX4_settle) := goodIn_app (goodIn_of _ (by decide +kernel)) ggX4_hand_X4_settle
theorem dX4_hand_0 : decode cX4_hand 0 = .ok (.iload_n 1, 1) := by decide +kernel
theorem dX4_hand_1 : decode cX4_hand 1 = .ok (.invokestatic 62, 3) := by decide +kernel
theorem dX4_hand_4 : decode cX4_hand 4 = .ok (.ifCond .ne 5, 3) := by decide +kernel
theorem dX4_hand_7 : decode cX4_hand 7 = .ok (.iconst 0, 1) := by decide +kernel
theorem dX4_hand_8 : decode cX4_hand 8 = .ok (.ireturn, 1) := by decide +kernel
theorem dX4_hand_9 : decode cX4_hand 9 = .ok (.aload_n 0, 1) := by decide +kernel
theorem dX4_hand_10 : decode cX4_hand 10 = .ok (.getfield 48, 3) := by decide +kernel
theorem dX4_hand_13 : decode cX4_hand 13 = .ok (.iconst 0, 1) := by decide +kernel
theorem dX4_hand_14 : decode cX4_hand 14 = .ok (.aload_n 0, 1) := by decide +kernel
theorem dX4_hand_15 : decode cX4_hand 15 = .ok (.getfield 52, 3) := by decide +kernel
theorem dX4_hand_18 : decode cX4_hand 18 = .ok (.iconst 0, 1) := by decide +kernel
theorem dX4_hand_19 : decode cX4_hand 19 = .ok (.aload_n 0, 1) := by decide +kernel
theorem dX4_hand_20 : decode cX4_hand 20 = .ok (.getfield 22, 3) := by decide +kernel
theorem dX4_hand_23 : decode cX4_hand 23 = .ok (.invokestatic 117, 3) := by decide +kernel
theorem dX4_hand_26 : decode cX4_hand 26 = .ok (.aload_n 0, 1) := by decide +kernel
theorem dX4_hand_27 : decode cX4_hand 27 = .ok (.iload_n 1, 1) := by decide +kernel
theorem dX4_hand_28 : decode cX4_hand 28 = .ok (.invokevirtual 91, 3) := by decide +kernel
theorem dX4_hand_31 : decode cX4_hand 31 = .ok (.ireturn, 1) := by decide +kernel
set_option maxRecDepth 20000 in
theorem ggX4_given_X4_lawAt : GoodIn wsX4_given wsX4_lawAt := goodIn_r _ [8, 9, 10, 11, 12, 7, 13, 14, 15, 16, 40, 41, 42, 43, 44, 45, 46, 47, 48, 49, 50] (by decide +kernel) (by decide +kernel)
set_option maxRecDepth 20000 in
theorem gX4_given_X4_lawAt : GoodIn wsX4_given (wsV RX4 123 RX4 yX4_lawAt wsX4_lawAt) := goodIn_app (goodIn_of _ (by decide +kernel)) ggX4_given_X4_lawAt
set_option maxRecDepth 20000 in
theorem ggX4_given_X4_isSet : GoodIn wsX4_given wsX4_isSet := goodIn_r _ [20, 1, 14, 15, 7, 16, 40, 41, 42, 43, 44, 45, 46, 47] (by decide +kernel) (by decide +kernel)
set_option maxRecDepth 20000 in
theorem gX4_given_X4_isSet : GoodIn wsX4_given (wsV RX4 80 RX4 yX4_isSet wsX4_isSet) := goodIn_app (goodIn_of _ (by decide +kernel)) ggX4_given_X4_isSet
set_option maxRecDepth 20000 in
theorem ggX4_given_X4_isPlace : GoodIn wsX4_given wsX4_isPlace := goodIn_r _ [13, 14, 15, 7, 16] (by decide +kernel) (by decide +kernel)
set_option maxRecDepth 20000 in
theorem gX4_given_X4_isPlace : GoodIn wsX4_given (va_wsS RX4 62 yX4_isPlace wsX4_isPlace) := goodIn_app (goodIn_of _ (by decide +kernel)) ggX4_given_X4_isPlace
set_option maxRecDepth 20000 in
theorem ggX4_given_X4_fits : GoodIn wsX4_given wsX4_fits := goodIn_r _ [23] (by decide +kernel) (by decide +kernel)
set_option maxRecDepth 20000 in
theorem gX4_given_X4_fits : GoodIn wsX4_given (va_wsS RX4 127 yX4_fits wsX4_fits) := goodIn_app (goodIn_of _ (by decide +kernel)) ggX4_given_X4_fits
set_option maxRecDepth 20000 in
theorem ggX4_given_X4_settle : GoodIn wsX4_given wsX4_settle := goodIn_r _ [27, 1, 2, 28, 9, 29, 30, 7, 31, 32, 33, 34, 35, 36, 37, 38, 39, 40, 41, 42, 43, 44, 45, 46, 47, 48, 49, 50] (by decide +kernel) (by decide +kernel)
set_option maxRecDepth 20000 in
theorem gX4_given_X4_settle : GoodIn wsX4_given (wsV RX4 91 RX4 yX4_settle wsX4_settle) := goodIn_app (goodIn_of _ (by decide +kernel)) ggX4_given_X4_settle
theorem dX4_given_0 : decode cX4_given 0 = .ok (.aload_n 0, 1) := by decide +kernel
theorem dX4_given_1 : decode cX4_given 1 = .ok (.iload_n 1, 1) := by decide +kernel
theorem dX4_given_2 : decode cX4_given 2 = .ok (.invokevirtual 123, 3) := by decide +kernel
theorem dX4_given_5 : decode cX4_given 5 = .ok (.astore 5, 2) := by decide +kernel
theorem dX4_given_7 : decode cX4_given 7 = .ok (.aload 5, 2) := by decide +kernel
theorem dX4_given_9 : decode cX4_given 9 = .ok (.ifnull 27, 3) := by decide +kernel
theorem dX4_given_12 : decode cX4_given 12 = .ok (.aload_n 0, 1) := by decide +kernel
theorem dX4_given_13 : decode cX4_given 13 = .ok (.iload_n 2, 1) := by decide +kernel
theorem dX4_given_14 : decode cX4_given 14 = .ok (.invokevirtual 80, 3) := by decide +kernel
theorem dX4_given_17 : decode cX4_given 17 = .ok (.ifCond .eq 19, 3) := by decide +kernel
theorem dX4_given_20 : decode cX4_given 20 = .ok (.aload_n 0, 1) := by decide +kernel
theorem dX4_given_21 : decode cX4_given 21 = .ok (.iload_n 3, 1) := by decide +kernel
theorem dX4_given_22 : decode cX4_given 22 = .ok (.invokevirtual 80, 3) := by decide +kernel
theorem dX4_given_25 : decode cX4_given 25 = .ok (.ifCond .eq 11, 3) := by decide +kernel
theorem dX4_given_28 : decode cX4_given 28 = .ok (.iload 4, 2) := by decide +kernel
theorem dX4_given_30 : decode cX4_given 30 = .ok (.invokestatic 62, 3) := by decide +kernel
theorem dX4_given_33 : decode cX4_given 33 = .ok (.ifCond .ne 5, 3) := by decide +kernel
theorem dX4_given_36 : decode cX4_given 36 = .ok (.iconst 0, 1) := by decide +kernel
theorem dX4_given_37 : decode cX4_given 37 = .ok (.ireturn, 1) := by decide +kernel
theorem dX4_given_38 : decode cX4_given 38 = .ok (.iconst 0, 1) := by decide +kernel
theorem dX4_given_39 : decode cX4_given 39 = .ok (.istore 6, 2) := by decide +kernel
theorem dX4_given_41 : decode cX4_given 41 = .ok (.iload 6, 2) := by decide +kernel
theorem dX4_given_43 : decode cX4_given 43 = .ok (.aload_n 0, 1) := by decide +kernel
theorem dX4_given_44 : decode cX4_given 44 = .ok (.getfield 22, 3) := by decide +kernel
theorem dX4_given_47 : decode cX4_given 47 = .ok (.if_icmp .ge 38, 3) := by decide +kernel
theorem dX4_given_50 : decode cX4_given 50 = .ok (.aload_n 0, 1) := by decide +kernel
theorem dX4_given_51 : decode cX4_given 51 = .ok (.getfield 52, 3) := by decide +kernel
theorem dX4_given_54 : decode cX4_given 54 = .ok (.iload 6, 2) := by decide +kernel
theorem dX4_given_56 : decode cX4_given 56 = .ok (.iload 6, 2) := by decide +kernel
theorem dX4_given_58 : decode cX4_given 58 = .ok (.iload_n 2, 1) := by decide +kernel
theorem dX4_given_59 : decode cX4_given 59 = .ok (.iload_n 3, 1) := by decide +kernel
theorem dX4_given_60 : decode cX4_given 60 = .ok (.invokestatic 127, 3) := by decide +kernel
theorem dX4_given_63 : decode cX4_given 63 = .ok (.ifCond .eq 14, 3) := by decide +kernel
theorem dX4_given_66 : decode cX4_given 66 = .ok (.aload 5, 2) := by decide +kernel
theorem dX4_given_68 : decode cX4_given 68 = .ok (.getfield 130, 3) := by decide +kernel
theorem dX4_given_71 : decode cX4_given 71 = .ok (.iload 6, 2) := by decide +kernel
theorem dX4_given_73 : decode cX4_given 73 = .ok (.laload, 1) := by decide +kernel
theorem dX4_given_74 : decode cX4_given 74 = .ok (.goto 4, 3) := by decide +kernel
theorem dX4_given_77 : decode cX4_given 77 = .ok (.lconst 0, 1) := by decide +kernel
theorem dX4_given_78 : decode cX4_given 78 = .ok (.lastore, 1) := by decide +kernel
theorem dX4_given_79 : decode cX4_given 79 = .ok (.iinc 6 1, 3) := by decide +kernel
theorem dX4_given_82 : decode cX4_given 82 = .ok (.goto (-41), 3) := by decide +kernel
theorem dX4_given_85 : decode cX4_given 85 = .ok (.aload_n 0, 1) := by decide +kernel
theorem dX4_given_86 : decode cX4_given 86 = .ok (.iload 4, 2) := by decide +kernel
theorem dX4_given_88 : decode cX4_given 88 = .ok (.invokevirtual 91, 3) := by decide +kernel
theorem dX4_given_91 : decode cX4_given 91 = .ok (.ireturn, 1) := by decide +kernel
set_option maxRecDepth 20000 in
theorem ggX4_thin_X4_lawAt : GoodIn wsX4_thin wsX4_lawAt := goodIn_r _ [13, 14, 15, 16, 17, 12, 18, 19, 20, 21, 53, 54, 55, 56, 57, 58, 59, 60, 50, 51, 52] (by decide +kernel) (by decide +kernel)
set_option maxRecDepth 20000 in
theorem gX4_thin_X4_lawAt : GoodIn wsX4_thin (wsV RX4 123 RX4 yX4_lawAt wsX4_lawAt) := goodIn_app (goodIn_of _ (by decide +kernel)) ggX4_thin_X4_lawAt
set_option maxRecDepth 20000 in
theorem ggX4_thin_X4_isSet : GoodIn wsX4_thin wsX4_isSet := goodIn_r _ [25, 3, 19, 20, 12, 21, 53, 54, 55, 56, 57, 58, 59, 60] (by decide +kernel) (by decide +kernel)
set_option maxRecDepth 20000 in
theorem gX4_thin_X4_isSet : GoodIn wsX4_thin (wsV RX4 80 RX4 yX4_isSet wsX4_isSet) := goodIn_app (goodIn_of _ (by decide +kernel)) ggX4_thin_X4_isSet
set_option maxRecDepth 20000 in
theorem ggX4_thin_X4_isPlace : GoodIn wsX4_thin wsX4_isPlace := goodIn_r _ [18, 19, 20, 12, 21] (by decide +kernel) (by decide +kernel)
set_option maxRecDepth 20000 in
theorem gX4_thin_X4_isPlace : GoodIn wsX4_thin (va_wsS RX4 62 yX4_isPlace wsX4_isPlace) := goodIn_app (goodIn_of _ (by decide +kernel)) ggX4_thin_X4_isPlace
set_option maxRecDepth 20000 in
theorem ggX4_thin_X4_has : GoodIn wsX4_thin wsX4_has := goodIn_r _ [28] (by decide +kernel) (by decide +kernel)
set_option maxRecDepth 20000 in
theorem gX4_thin_X4_has : GoodIn wsX4_thin (va_wsS RX4 133 yX4_has wsX4_has) := goodIn_app (goodIn_of _ (by decide +kernel)) ggX4_thin_X4_has
set_option maxRecDepth 20000 in
theorem ggX4_thin_X4_halveDraft : GoodIn wsX4_thin wsX4_halveDraft := goodIn_r _ [32, 3, 2, 33, 53, 54, 55, 56, 57, 58, 59, 60] (by decide +kernel) (by decide +kernel)
set_option maxRecDepth 20000 in
theorem gX4_thin_X4_halveDraft : GoodIn wsX4_thin (wsV RX4 136 RX4 yX4_halveDraft wsX4_halveDraft) := goodIn_app (goodIn_of _ (by decide +kernel)) ggX4_thin_X4_halveDraft
set_option maxRecDepth 20000 in
theorem ggX4_thin_X4_settle : GoodIn wsX4_thin wsX4_settle := goodIn_r _ [37, 3, 2, 38, 14, 39, 40, 12, 41, 42, 43, 44, 45, 46, 47, 48, 49, 53, 54, 55, 56, 57, 58, 59, 60, 50, 51, 52] (by decide +kernel) (by decide +kernel)
set_option maxRecDepth 20000 in
theorem gX4_thin_X4_settle : GoodIn wsX4_thin (wsV RX4 91 RX4 yX4_settle wsX4_settle) := goodIn_app (goodIn_of _ (by decide +kernel)) ggX4_thin_X4_settle
theorem dX4_thin_0 : decode cX4_thin 0 = .ok (.aload_n 0, 1) := by decide +kernel
theorem dX4_thin_1 : decode cX4_thin 1 = .ok (.iload_n 1, 1) := by decide +kernel
theorem dX4_thin_2 : decode cX4_thin 2 = .ok (.invokevirtual 123, 3) := by decide +kernel
theorem dX4_thin_5 : decode cX4_thin 5 = .ok (.astore 4, 2) := by decide +kernel
theorem dX4_thin_7 : decode cX4_thin 7 = .ok (.aload 4, 2) := by decide +kernel
theorem dX4_thin_9 : decode cX4_thin 9 = .ok (.ifnull 18, 3) := by decide +kernel
theorem dX4_thin_12 : decode cX4_thin 12 = .ok (.aload_n 0, 1) := by decide +kernel
theorem dX4_thin_13 : decode cX4_thin 13 = .ok (.iload_n 2, 1) := by decide +kernel
theorem dX4_thin_14 : decode cX4_thin 14 = .ok (.invokevirtual 80, 3) := by decide +kernel
theorem dX4_thin_17 : decode cX4_thin 17 = .ok (.ifCond .eq 10, 3) := by decide +kernel
theorem dX4_thin_20 : decode cX4_thin 20 = .ok (.iload_n 3, 1) := by decide +kernel
theorem dX4_thin_21 : decode cX4_thin 21 = .ok (.invokestatic 62, 3) := by decide +kernel
theorem dX4_thin_24 : decode cX4_thin 24 = .ok (.ifCond .ne 5, 3) := by decide +kernel
theorem dX4_thin_27 : decode cX4_thin 27 = .ok (.iconst 0, 1) := by decide +kernel
theorem dX4_thin_28 : decode cX4_thin 28 = .ok (.ireturn, 1) := by decide +kernel
theorem dX4_thin_29 : decode cX4_thin 29 = .ok (.aload 4, 2) := by decide +kernel
theorem dX4_thin_31 : decode cX4_thin 31 = .ok (.getfield 130, 3) := by decide +kernel
theorem dX4_thin_34 : decode cX4_thin 34 = .ok (.iconst 0, 1) := by decide +kernel
theorem dX4_thin_35 : decode cX4_thin 35 = .ok (.aload_n 0, 1) := by decide +kernel
theorem dX4_thin_36 : decode cX4_thin 36 = .ok (.getfield 52, 3) := by decide +kernel
theorem dX4_thin_39 : decode cX4_thin 39 = .ok (.iconst 0, 1) := by decide +kernel
theorem dX4_thin_40 : decode cX4_thin 40 = .ok (.aload_n 0, 1) := by decide +kernel
theorem dX4_thin_41 : decode cX4_thin 41 = .ok (.getfield 22, 3) := by decide +kernel
theorem dX4_thin_44 : decode cX4_thin 44 = .ok (.invokestatic 117, 3) := by decide +kernel
theorem dX4_thin_47 : decode cX4_thin 47 = .ok (.iconst 0, 1) := by decide +kernel
theorem dX4_thin_48 : decode cX4_thin 48 = .ok (.istore 5, 2) := by decide +kernel
theorem dX4_thin_50 : decode cX4_thin 50 = .ok (.iload 5, 2) := by decide +kernel
theorem dX4_thin_52 : decode cX4_thin 52 = .ok (.aload_n 0, 1) := by decide +kernel
theorem dX4_thin_53 : decode cX4_thin 53 = .ok (.getfield 18, 3) := by decide +kernel
theorem dX4_thin_56 : decode cX4_thin 56 = .ok (.if_icmp .ge 26, 3) := by decide +kernel
theorem dX4_thin_59 : decode cX4_thin 59 = .ok (.iload_n 2, 1) := by decide +kernel
theorem dX4_thin_60 : decode cX4_thin 60 = .ok (.iload 5, 2) := by decide +kernel
theorem dX4_thin_62 : decode cX4_thin 62 = .ok (.invokestatic 133, 3) := by decide +kernel
theorem dX4_thin_65 : decode cX4_thin 65 = .ok (.ifCond .eq 11, 3) := by decide +kernel
theorem dX4_thin_68 : decode cX4_thin 68 = .ok (.aload_n 0, 1) := by decide +kernel
theorem dX4_thin_69 : decode cX4_thin 69 = .ok (.iconst 1, 1) := by decide +kernel
theorem dX4_thin_70 : decode cX4_thin 70 = .ok (.iload 5, 2) := by decide +kernel
theorem dX4_thin_72 : decode cX4_thin 72 = .ok (.ishl, 1) := by decide +kernel
theorem dX4_thin_73 : decode cX4_thin 73 = .ok (.invokevirtual 136, 3) := by decide +kernel
theorem dX4_thin_76 : decode cX4_thin 76 = .ok (.iinc 5 1, 3) := by decide +kernel
theorem dX4_thin_79 : decode cX4_thin 79 = .ok (.goto (-29), 3) := by decide +kernel
theorem dX4_thin_82 : decode cX4_thin 82 = .ok (.aload_n 0, 1) := by decide +kernel
theorem dX4_thin_83 : decode cX4_thin 83 = .ok (.iload_n 3, 1) := by decide +kernel
theorem dX4_thin_84 : decode cX4_thin 84 = .ok (.invokevirtual 91, 3) := by decide +kernel
theorem dX4_thin_87 : decode cX4_thin 87 = .ok (.ireturn, 1) := by decide +kernel
set_option maxRecDepth 20000 in
theorem ggX4_part_X4_lawAt : GoodIn wsX4_part wsX4_lawAt := goodIn_r _ [8, 9, 10, 11, 12, 7, 13, 14, 15, 16, 37, 38, 39, 40, 41, 42, 43, 44, 45, 46, 47] (by decide +kernel) (by decide +kernel)
set_option maxRecDepth 20000 in
theorem gX4_part_X4_lawAt : GoodIn wsX4_part (wsV RX4 123 RX4 yX4_lawAt wsX4_lawAt) := goodIn_app (goodIn_of _ (by decide +kernel)) ggX4_part_X4_lawAt
set_option maxRecDepth 20000 in
theorem ggX4_part_X4_isSet : GoodIn wsX4_part wsX4_isSet := goodIn_r _ [20, 1, 14, 15, 7, 16, 37, 38, 39, 40, 41, 42, 43, 44] (by decide +kernel) (by decide +kernel)
set_option maxRecDepth 20000 in
theorem gX4_part_X4_isSet : GoodIn wsX4_part (wsV RX4 80 RX4 yX4_isSet wsX4_isSet) := goodIn_app (goodIn_of _ (by decide +kernel)) ggX4_part_X4_isSet
set_option maxRecDepth 20000 in
theorem ggX4_part_X4_isPlace : GoodIn wsX4_part wsX4_isPlace := goodIn_r _ [13, 14, 15, 7, 16] (by decide +kernel) (by decide +kernel)
set_option maxRecDepth 20000 in
theorem gX4_part_X4_isPlace : GoodIn wsX4_part (va_wsS RX4 62 yX4_isPlace wsX4_isPlace) := goodIn_app (goodIn_of _ (by decide +kernel)) ggX4_part_X4_isPlace
set_option maxRecDepth 20000 in
theorem ggX4_part_X4_settle : GoodIn wsX4_part wsX4_settle := goodIn_r _ [24, 1, 2, 25, 9, 26, 27, 7, 28, 29, 30, 31, 32, 33, 34, 35, 36, 37, 38, 39, 40, 41, 42, 43, 44, 45, 46, 47] (by decide +kernel) (by decide +kernel)
set_option maxRecDepth 20000 in
theorem gX4_part_X4_settle : GoodIn wsX4_part (wsV RX4 91 RX4 yX4_settle wsX4_settle) := goodIn_app (goodIn_of _ (by decide +kernel)) ggX4_part_X4_settle
theorem dX4_part_0 : decode cX4_part 0 = .ok (.aload_n 0, 1) := by decide +kernel
theorem dX4_part_1 : decode cX4_part 1 = .ok (.iload_n 1, 1) := by decide +kernel
theorem dX4_part_2 : decode cX4_part 2 = .ok (.invokevirtual 123, 3) := by decide +kernel
theorem dX4_part_5 : decode cX4_part 5 = .ok (.astore 4, 2) := by decide +kernel
theorem dX4_part_7 : decode cX4_part 7 = .ok (.aload 4, 2) := by decide +kernel
theorem dX4_part_9 : decode cX4_part 9 = .ok (.ifnull 18, 3) := by decide +kernel
theorem dX4_part_12 : decode cX4_part 12 = .ok (.aload_n 0, 1) := by decide +kernel
theorem dX4_part_13 : decode cX4_part 13 = .ok (.iload_n 2, 1) := by decide +kernel
theorem dX4_part_14 : decode cX4_part 14 = .ok (.invokevirtual 80, 3) := by decide +kernel
theorem dX4_part_17 : decode cX4_part 17 = .ok (.ifCond .eq 10, 3) := by decide +kernel
theorem dX4_part_20 : decode cX4_part 20 = .ok (.iload_n 3, 1) := by decide +kernel
theorem dX4_part_21 : decode cX4_part 21 = .ok (.invokestatic 62, 3) := by decide +kernel
theorem dX4_part_24 : decode cX4_part 24 = .ok (.ifCond .ne 5, 3) := by decide +kernel
theorem dX4_part_27 : decode cX4_part 27 = .ok (.iconst 0, 1) := by decide +kernel
theorem dX4_part_28 : decode cX4_part 28 = .ok (.ireturn, 1) := by decide +kernel
theorem dX4_part_29 : decode cX4_part 29 = .ok (.iconst 0, 1) := by decide +kernel
theorem dX4_part_30 : decode cX4_part 30 = .ok (.istore 5, 2) := by decide +kernel
theorem dX4_part_32 : decode cX4_part 32 = .ok (.iload 5, 2) := by decide +kernel
theorem dX4_part_34 : decode cX4_part 34 = .ok (.aload_n 0, 1) := by decide +kernel
theorem dX4_part_35 : decode cX4_part 35 = .ok (.getfield 22, 3) := by decide +kernel
theorem dX4_part_38 : decode cX4_part 38 = .ok (.if_icmp .ge 17, 3) := by decide +kernel
theorem dX4_part_41 : decode cX4_part 41 = .ok (.aload_n 0, 1) := by decide +kernel
theorem dX4_part_42 : decode cX4_part 42 = .ok (.getfield 52, 3) := by decide +kernel
theorem dX4_part_45 : decode cX4_part 45 = .ok (.iload 5, 2) := by decide +kernel
theorem dX4_part_47 : decode cX4_part 47 = .ok (.lconst 0, 1) := by decide +kernel
theorem dX4_part_48 : decode cX4_part 48 = .ok (.lastore, 1) := by decide +kernel
theorem dX4_part_49 : decode cX4_part 49 = .ok (.iinc 5 1, 3) := by decide +kernel
theorem dX4_part_52 : decode cX4_part 52 = .ok (.goto (-20), 3) := by decide +kernel
theorem dX4_part_55 : decode cX4_part 55 = .ok (.iconst 0, 1) := by decide +kernel
theorem dX4_part_56 : decode cX4_part 56 = .ok (.istore 5, 2) := by decide +kernel
theorem dX4_part_58 : decode cX4_part 58 = .ok (.iload 5, 2) := by decide +kernel
theorem dX4_part_60 : decode cX4_part 60 = .ok (.aload_n 0, 1) := by decide +kernel
theorem dX4_part_61 : decode cX4_part 61 = .ok (.getfield 22, 3) := by decide +kernel
theorem dX4_part_64 : decode cX4_part 64 = .ok (.if_icmp .ge 29, 3) := by decide +kernel
theorem dX4_part_67 : decode cX4_part 67 = .ok (.aload_n 0, 1) := by decide +kernel
theorem dX4_part_68 : decode cX4_part 68 = .ok (.getfield 52, 3) := by decide +kernel
theorem dX4_part_71 : decode cX4_part 71 = .ok (.iload 5, 2) := by decide +kernel
theorem dX4_part_73 : decode cX4_part 73 = .ok (.iload_n 2, 1) := by decide +kernel
theorem dX4_part_74 : decode cX4_part 74 = .ok (.iand, 1) := by decide +kernel
theorem dX4_part_75 : decode cX4_part 75 = .ok (.dup2, 1) := by decide +kernel
theorem dX4_part_76 : decode cX4_part 76 = .ok (.laload, 1) := by decide +kernel
theorem dX4_part_77 : decode cX4_part 77 = .ok (.aload 4, 2) := by decide +kernel
theorem dX4_part_79 : decode cX4_part 79 = .ok (.getfield 130, 3) := by decide +kernel
theorem dX4_part_82 : decode cX4_part 82 = .ok (.iload 5, 2) := by decide +kernel
theorem dX4_part_84 : decode cX4_part 84 = .ok (.laload, 1) := by decide +kernel
theorem dX4_part_85 : decode cX4_part 85 = .ok (.ladd, 1) := by decide +kernel
theorem dX4_part_86 : decode cX4_part 86 = .ok (.lastore, 1) := by decide +kernel
theorem dX4_part_87 : decode cX4_part 87 = .ok (.iinc 5 1, 3) := by decide +kernel
theorem dX4_part_90 : decode cX4_part 90 = .ok (.goto (-32), 3) := by decide +kernel
theorem dX4_part_93 : decode cX4_part 93 = .ok (.aload_n 0, 1) := by decide +kernel
theorem dX4_part_94 : decode cX4_part 94 = .ok (.iload_n 3, 1) := by decide +kernel
theorem dX4_part_95 : decode cX4_part 95 = .ok (.invokevirtual 91, 3) := by decide +kernel
theorem dX4_part_98 : decode cX4_part 98 = .ok (.ireturn, 1) := by decide +kernel
set_option maxRecDepth 20000 in
theorem ggX4_other_X4_lawAt : GoodIn wsX4_other wsX4_lawAt := goodIn_r _ [8, 9, 10, 11, 12, 7, 13, 14, 15, 16, 37, 38, 39, 40, 41, 42, 43, 44, 45, 46, 47] (by decide +kernel) (by decide +kernel)
set_option maxRecDepth 20000 in
theorem gX4_other_X4_lawAt : GoodIn wsX4_other (wsV RX4 123 RX4 yX4_lawAt wsX4_lawAt) := goodIn_app (goodIn_of _ (by decide +kernel)) ggX4_other_X4_lawAt
set_option maxRecDepth 20000 in
theorem ggX4_other_X4_isSet : GoodIn wsX4_other wsX4_isSet := goodIn_r _ [20, 1, 14, 15, 7, 16, 37, 38, 39, 40, 41, 42, 43, 44] (by decide +kernel) (by decide +kernel)
set_option maxRecDepth 20000 in
theorem gX4_other_X4_isSet : GoodIn wsX4_other (wsV RX4 80 RX4 yX4_isSet wsX4_isSet) := goodIn_app (goodIn_of _ (by decide +kernel)) ggX4_other_X4_isSet
set_option maxRecDepth 20000 in
theorem ggX4_other_X4_isPlace : GoodIn wsX4_other wsX4_isPlace := goodIn_r _ [13, 14, 15, 7, 16] (by decide +kernel) (by decide +kernel)
set_option maxRecDepth 20000 in
theorem gX4_other_X4_isPlace : GoodIn wsX4_other (va_wsS RX4 62 yX4_isPlace wsX4_isPlace) := goodIn_app (goodIn_of _ (by decide +kernel)) ggX4_other_X4_isPlace
set_option maxRecDepth 20000 in
theorem ggX4_other_X4_settle : GoodIn wsX4_other wsX4_settle := goodIn_r _ [24, 1, 2, 25, 9, 26, 27, 7, 28, 29, 30, 31, 32, 33, 34, 35, 36, 37, 38, 39, 40, 41, 42, 43, 44, 45, 46, 47] (by decide +kernel) (by decide +kernel)
set_option maxRecDepth 20000 in
theorem gX4_other_X4_settle : GoodIn wsX4_other (wsV RX4 91 RX4 yX4_settle wsX4_settle) := goodIn_app (goodIn_of _ (by decide +kernel)) ggX4_other_X4_settle
theorem dX4_other_0 : decode cX4_other 0 = .ok (.aload_n 0, 1) := by decide +kernel
theorem dX4_other_1 : decode cX4_other 1 = .ok (.iload_n 1, 1) := by decide +kernel
theorem dX4_other_2 : decode cX4_other 2 = .ok (.invokevirtual 123, 3) := by decide +kernel
theorem dX4_other_5 : decode cX4_other 5 = .ok (.astore 4, 2) := by decide +kernel
theorem dX4_other_7 : decode cX4_other 7 = .ok (.aload 4, 2) := by decide +kernel
theorem dX4_other_9 : decode cX4_other 9 = .ok (.ifnull 18, 3) := by decide +kernel
theorem dX4_other_12 : decode cX4_other 12 = .ok (.aload_n 0, 1) := by decide +kernel
theorem dX4_other_13 : decode cX4_other 13 = .ok (.iload_n 2, 1) := by decide +kernel
theorem dX4_other_14 : decode cX4_other 14 = .ok (.invokevirtual 80, 3) := by decide +kernel
theorem dX4_other_17 : decode cX4_other 17 = .ok (.ifCond .eq 10, 3) := by decide +kernel
theorem dX4_other_20 : decode cX4_other 20 = .ok (.iload_n 3, 1) := by decide +kernel
theorem dX4_other_21 : decode cX4_other 21 = .ok (.invokestatic 62, 3) := by decide +kernel
theorem dX4_other_24 : decode cX4_other 24 = .ok (.ifCond .ne 5, 3) := by decide +kernel
theorem dX4_other_27 : decode cX4_other 27 = .ok (.iconst 0, 1) := by decide +kernel
theorem dX4_other_28 : decode cX4_other 28 = .ok (.ireturn, 1) := by decide +kernel
theorem dX4_other_29 : decode cX4_other 29 = .ok (.iconst 0, 1) := by decide +kernel
theorem dX4_other_30 : decode cX4_other 30 = .ok (.istore 5, 2) := by decide +kernel
theorem dX4_other_32 : decode cX4_other 32 = .ok (.iload 5, 2) := by decide +kernel
theorem dX4_other_34 : decode cX4_other 34 = .ok (.aload_n 0, 1) := by decide +kernel
theorem dX4_other_35 : decode cX4_other 35 = .ok (.getfield 22, 3) := by decide +kernel
theorem dX4_other_38 : decode cX4_other 38 = .ok (.if_icmp .ge 26, 3) := by decide +kernel
theorem dX4_other_41 : decode cX4_other 41 = .ok (.aload_n 0, 1) := by decide +kernel
theorem dX4_other_42 : decode cX4_other 42 = .ok (.getfield 52, 3) := by decide +kernel
theorem dX4_other_45 : decode cX4_other 45 = .ok (.iload 5, 2) := by decide +kernel
theorem dX4_other_47 : decode cX4_other 47 = .ok (.iload_n 2, 1) := by decide +kernel
theorem dX4_other_48 : decode cX4_other 48 = .ok (.ixor, 1) := by decide +kernel
theorem dX4_other_49 : decode cX4_other 49 = .ok (.aload 4, 2) := by decide +kernel
theorem dX4_other_51 : decode cX4_other 51 = .ok (.getfield 130, 3) := by decide +kernel
theorem dX4_other_54 : decode cX4_other 54 = .ok (.iload 5, 2) := by decide +kernel
theorem dX4_other_56 : decode cX4_other 56 = .ok (.laload, 1) := by decide +kernel
theorem dX4_other_57 : decode cX4_other 57 = .ok (.lastore, 1) := by decide +kernel
theorem dX4_other_58 : decode cX4_other 58 = .ok (.iinc 5 1, 3) := by decide +kernel
theorem dX4_other_61 : decode cX4_other 61 = .ok (.goto (-29), 3) := by decide +kernel
theorem dX4_other_64 : decode cX4_other 64 = .ok (.aload_n 0, 1) := by decide +kernel
theorem dX4_other_65 : decode cX4_other 65 = .ok (.iload_n 3, 1) := by decide +kernel
theorem dX4_other_66 : decode cX4_other 66 = .ok (.invokevirtual 91, 3) := by decide +kernel
theorem dX4_other_69 : decode cX4_other 69 = .ok (.ireturn, 1) := by decide +kernel
set_option maxRecDepth 20000 in
theorem ggX4_mix_X4_lawAt : GoodIn wsX4_mix wsX4_lawAt := goodIn_r _ [9, 10, 11, 12, 13, 8, 14, 15, 16, 17, 37, 38, 39, 40, 41, 42, 43, 44, 34, 35, 36] (by decide +kernel) (by decide +kernel)
set_option maxRecDepth 20000 in
theorem gX4_mix_X4_lawAt : GoodIn wsX4_mix (wsV RX4 123 RX4 yX4_lawAt wsX4_lawAt) := goodIn_app (goodIn_of _ (by decide +kernel)) ggX4_mix_X4_lawAt
set_option maxRecDepth 20000 in
theorem ggX4_mix_X4_isPlace : GoodIn wsX4_mix wsX4_isPlace := goodIn_r _ [14, 15, 16, 8, 17] (by decide +kernel) (by decide +kernel)
set_option maxRecDepth 20000 in
theorem gX4_mix_X4_isPlace : GoodIn wsX4_mix (va_wsS RX4 62 yX4_isPlace wsX4_isPlace) := goodIn_app (goodIn_of _ (by decide +kernel)) ggX4_mix_X4_isPlace
set_option maxRecDepth 20000 in
theorem ggX4_mix_X4_isAmong : GoodIn wsX4_mix wsX4_isAmong := goodIn_r _ [17] (by decide +kernel) (by decide +kernel)
set_option maxRecDepth 20000 in
theorem gX4_mix_X4_isAmong : GoodIn wsX4_mix (va_wsS RX4 69 yX4_isAmong wsX4_isAmong) := goodIn_app (goodIn_of _ (by decide +kernel)) ggX4_mix_X4_isAmong
set_option maxRecDepth 20000 in
theorem ggX4_mix_X4_settle : GoodIn wsX4_mix wsX4_settle := goodIn_r _ [21, 2, 3, 22, 10, 23, 24, 8, 25, 26, 27, 28, 29, 30, 31, 32, 33, 37, 38, 39, 40, 41, 42, 43, 44, 34, 35, 36] (by decide +kernel) (by decide +kernel)
set_option maxRecDepth 20000 in
theorem gX4_mix_X4_settle : GoodIn wsX4_mix (wsV RX4 91 RX4 yX4_settle wsX4_settle) := goodIn_app (goodIn_of _ (by decide +kernel)) ggX4_mix_X4_settle
theorem dX4_mix_0 : decode cX4_mix 0 = .ok (.aload_n 0, 1) := by decide +kernel
theorem dX4_mix_1 : decode cX4_mix 1 = .ok (.iload_n 1, 1) := by decide +kernel
theorem dX4_mix_2 : decode cX4_mix 2 = .ok (.invokevirtual 123, 3) := by decide +kernel
theorem dX4_mix_5 : decode cX4_mix 5 = .ok (.astore 6, 2) := by decide +kernel
theorem dX4_mix_7 : decode cX4_mix 7 = .ok (.aload_n 0, 1) := by decide +kernel
theorem dX4_mix_8 : decode cX4_mix 8 = .ok (.iload_n 2, 1) := by decide +kernel
theorem dX4_mix_9 : decode cX4_mix 9 = .ok (.invokevirtual 123, 3) := by decide +kernel
theorem dX4_mix_12 : decode cX4_mix 12 = .ok (.astore 7, 2) := by decide +kernel
theorem dX4_mix_14 : decode cX4_mix 14 = .ok (.aload 6, 2) := by decide +kernel
theorem dX4_mix_16 : decode cX4_mix 16 = .ok (.ifnull 16, 3) := by decide +kernel
theorem dX4_mix_19 : decode cX4_mix 19 = .ok (.aload 7, 2) := by decide +kernel
theorem dX4_mix_21 : decode cX4_mix 21 = .ok (.ifnull 11, 3) := by decide +kernel
theorem dX4_mix_24 : decode cX4_mix 24 = .ok (.iload 5, 2) := by decide +kernel
theorem dX4_mix_26 : decode cX4_mix 26 = .ok (.invokestatic 62, 3) := by decide +kernel
theorem dX4_mix_29 : decode cX4_mix 29 = .ok (.ifCond .ne 5, 3) := by decide +kernel
theorem dX4_mix_32 : decode cX4_mix 32 = .ok (.iconst 0, 1) := by decide +kernel
theorem dX4_mix_33 : decode cX4_mix 33 = .ok (.ireturn, 1) := by decide +kernel
theorem dX4_mix_34 : decode cX4_mix 34 = .ok (.iload_n 3, 1) := by decide +kernel
theorem dX4_mix_35 : decode cX4_mix 35 = .ok (.iconst 1, 1) := by decide +kernel
theorem dX4_mix_36 : decode cX4_mix 36 = .ok (.bipush 9, 2) := by decide +kernel
theorem dX4_mix_38 : decode cX4_mix 38 = .ok (.invokestatic 69, 3) := by decide +kernel
theorem dX4_mix_41 : decode cX4_mix 41 = .ok (.ifCond .eq 14, 3) := by decide +kernel
theorem dX4_mix_44 : decode cX4_mix 44 = .ok (.iload 4, 2) := by decide +kernel
theorem dX4_mix_46 : decode cX4_mix 46 = .ok (.iconst 1, 1) := by decide +kernel
theorem dX4_mix_47 : decode cX4_mix 47 = .ok (.bipush 9, 2) := by decide +kernel
theorem dX4_mix_49 : decode cX4_mix 49 = .ok (.invokestatic 69, 3) := by decide +kernel
theorem dX4_mix_52 : decode cX4_mix 52 = .ok (.ifCond .ne 5, 3) := by decide +kernel
theorem dX4_mix_55 : decode cX4_mix 55 = .ok (.iconst 0, 1) := by decide +kernel
theorem dX4_mix_56 : decode cX4_mix 56 = .ok (.ireturn, 1) := by decide +kernel
theorem dX4_mix_57 : decode cX4_mix 57 = .ok (.iload_n 3, 1) := by decide +kernel
theorem dX4_mix_58 : decode cX4_mix 58 = .ok (.i2l, 1) := by decide +kernel
theorem dX4_mix_59 : decode cX4_mix 59 = .ok (.aload 7, 2) := by decide +kernel
theorem dX4_mix_61 : decode cX4_mix 61 = .ok (.getfield 139, 3) := by decide +kernel
theorem dX4_mix_64 : decode cX4_mix 64 = .ok (.lmul, 1) := by decide +kernel
theorem dX4_mix_65 : decode cX4_mix 65 = .ok (.lstore 8, 2) := by decide +kernel
theorem dX4_mix_67 : decode cX4_mix 67 = .ok (.iload 4, 2) := by decide +kernel
theorem dX4_mix_69 : decode cX4_mix 69 = .ok (.i2l, 1) := by decide +kernel
theorem dX4_mix_70 : decode cX4_mix 70 = .ok (.aload 6, 2) := by decide +kernel
theorem dX4_mix_72 : decode cX4_mix 72 = .ok (.getfield 139, 3) := by decide +kernel
theorem dX4_mix_75 : decode cX4_mix 75 = .ok (.lmul, 1) := by decide +kernel
theorem dX4_mix_76 : decode cX4_mix 76 = .ok (.lstore 10, 2) := by decide +kernel
theorem dX4_mix_78 : decode cX4_mix 78 = .ok (.iconst 0, 1) := by decide +kernel
theorem dX4_mix_79 : decode cX4_mix 79 = .ok (.istore 12, 2) := by decide +kernel
theorem dX4_mix_81 : decode cX4_mix 81 = .ok (.iload 12, 2) := by decide +kernel
theorem dX4_mix_83 : decode cX4_mix 83 = .ok (.aload_n 0, 1) := by decide +kernel
theorem dX4_mix_84 : decode cX4_mix 84 = .ok (.getfield 22, 3) := by decide +kernel
theorem dX4_mix_87 : decode cX4_mix 87 = .ok (.if_icmp .ge 39, 3) := by decide +kernel
theorem dX4_mix_90 : decode cX4_mix 90 = .ok (.aload_n 0, 1) := by decide +kernel
theorem dX4_mix_91 : decode cX4_mix 91 = .ok (.getfield 52, 3) := by decide +kernel
theorem dX4_mix_94 : decode cX4_mix 94 = .ok (.iload 12, 2) := by decide +kernel
theorem dX4_mix_96 : decode cX4_mix 96 = .ok (.aload 6, 2) := by decide +kernel
theorem dX4_mix_98 : decode cX4_mix 98 = .ok (.getfield 130, 3) := by decide +kernel
theorem dX4_mix_101 : decode cX4_mix 101 = .ok (.iload 12, 2) := by decide +kernel
theorem dX4_mix_103 : decode cX4_mix 103 = .ok (.laload, 1) := by decide +kernel
theorem dX4_mix_104 : decode cX4_mix 104 = .ok (.lload 8, 2) := by decide +kernel
theorem dX4_mix_106 : decode cX4_mix 106 = .ok (.lmul, 1) := by decide +kernel
theorem dX4_mix_107 : decode cX4_mix 107 = .ok (.aload 7, 2) := by decide +kernel
theorem dX4_mix_109 : decode cX4_mix 109 = .ok (.getfield 130, 3) := by decide +kernel
theorem dX4_mix_112 : decode cX4_mix 112 = .ok (.iload 12, 2) := by decide +kernel
theorem dX4_mix_114 : decode cX4_mix 114 = .ok (.laload, 1) := by decide +kernel
theorem dX4_mix_115 : decode cX4_mix 115 = .ok (.lload 10, 2) := by decide +kernel
theorem dX4_mix_117 : decode cX4_mix 117 = .ok (.lmul, 1) := by decide +kernel
theorem dX4_mix_118 : decode cX4_mix 118 = .ok (.ladd, 1) := by decide +kernel
theorem dX4_mix_119 : decode cX4_mix 119 = .ok (.lastore, 1) := by decide +kernel
theorem dX4_mix_120 : decode cX4_mix 120 = .ok (.iinc 12 1, 3) := by decide +kernel
theorem dX4_mix_123 : decode cX4_mix 123 = .ok (.goto (-42), 3) := by decide +kernel
theorem dX4_mix_126 : decode cX4_mix 126 = .ok (.aload_n 0, 1) := by decide +kernel
theorem dX4_mix_127 : decode cX4_mix 127 = .ok (.iload 5, 2) := by decide +kernel
theorem dX4_mix_129 : decode cX4_mix 129 = .ok (.invokevirtual 91, 3) := by decide +kernel
theorem dX4_mix_132 : decode cX4_mix 132 = .ok (.ireturn, 1) := by decide +kernel
set_option maxRecDepth 20000 in
theorem ggX4_share_X4_lawAt : GoodIn wsX4_share wsX4_lawAt := goodIn_r _ [7, 8, 9, 10, 11, 6, 12, 13, 14, 15, 24, 25, 26, 27, 28, 29, 30, 31, 21, 22, 23] (by decide +kernel) (by decide +kernel)
set_option maxRecDepth 20000 in
theorem gX4_share_X4_lawAt : GoodIn wsX4_share (wsV RX4 123 RX4 yX4_lawAt wsX4_lawAt) := goodIn_app (goodIn_of _ (by decide +kernel)) ggX4_share_X4_lawAt
set_option maxRecDepth 20000 in
theorem ggX4_share_X4_isSet : GoodIn wsX4_share wsX4_isSet := goodIn_r _ [19, 20, 13, 14, 6, 15, 24, 25, 26, 27, 28, 29, 30, 31] (by decide +kernel) (by decide +kernel)
set_option maxRecDepth 20000 in
theorem gX4_share_X4_isSet : GoodIn wsX4_share (wsV RX4 80 RX4 yX4_isSet wsX4_isSet) := goodIn_app (goodIn_of _ (by decide +kernel)) ggX4_share_X4_isSet
theorem dX4_share_0 : decode cX4_share 0 = .ok (.aload_n 0, 1) := by decide +kernel
theorem dX4_share_1 : decode cX4_share 1 = .ok (.iload_n 1, 1) := by decide +kernel
theorem dX4_share_2 : decode cX4_share 2 = .ok (.invokevirtual 123, 3) := by decide +kernel
theorem dX4_share_5 : decode cX4_share 5 = .ok (.astore_n 3, 1) := by decide +kernel
theorem dX4_share_6 : decode cX4_share 6 = .ok (.aload_n 3, 1) := by decide +kernel
theorem dX4_share_7 : decode cX4_share 7 = .ok (.ifnull 11, 3) := by decide +kernel
theorem dX4_share_10 : decode cX4_share 10 = .ok (.aload_n 0, 1) := by decide +kernel
theorem dX4_share_11 : decode cX4_share 11 = .ok (.iload_n 2, 1) := by decide +kernel
theorem dX4_share_12 : decode cX4_share 12 = .ok (.invokevirtual 80, 3) := by decide +kernel
theorem dX4_share_15 : decode cX4_share 15 = .ok (.ifCond .ne 7, 3) := by decide +kernel
theorem dX4_share_18 : decode cX4_share 18 = .ok (.ldc2_w 143, 3) := by decide +kernel
theorem dX4_share_21 : decode cX4_share 21 = .ok (.lreturn, 1) := by decide +kernel
theorem dX4_share_22 : decode cX4_share 22 = .ok (.aload_n 3, 1) := by decide +kernel
theorem dX4_share_23 : decode cX4_share 23 = .ok (.getfield 130, 3) := by decide +kernel
theorem dX4_share_26 : decode cX4_share 26 = .ok (.iload_n 2, 1) := by decide +kernel
theorem dX4_share_27 : decode cX4_share 27 = .ok (.laload, 1) := by decide +kernel
theorem dX4_share_28 : decode cX4_share 28 = .ok (.lreturn, 1) := by decide +kernel
set_option maxRecDepth 20000 in
theorem ggX4_chance_X4_lawAt : GoodIn wsX4_chance wsX4_lawAt := goodIn_r _ [8, 9, 10, 11, 12, 7, 13, 14, 15, 16, 38, 39, 40, 41, 42, 43, 44, 45, 35, 36, 37] (by decide +kernel) (by decide +kernel)
set_option maxRecDepth 20000 in
theorem gX4_chance_X4_lawAt : GoodIn wsX4_chance (wsV RX4 123 RX4 yX4_lawAt wsX4_lawAt) := goodIn_app (goodIn_of _ (by decide +kernel)) ggX4_chance_X4_lawAt
set_option maxRecDepth 20000 in
theorem ggX4_chance_X4_isSet : GoodIn wsX4_chance wsX4_isSet := goodIn_r _ [20, 21, 14, 15, 7, 16, 38, 39, 40, 41, 42, 43, 44, 45] (by decide +kernel) (by decide +kernel)
set_option maxRecDepth 20000 in
theorem gX4_chance_X4_isSet : GoodIn wsX4_chance (wsV RX4 80 RX4 yX4_isSet wsX4_isSet) := goodIn_app (goodIn_of _ (by decide +kernel)) ggX4_chance_X4_isSet
set_option maxRecDepth 20000 in
theorem ggX4_chance_X4_isWhat : GoodIn wsX4_chance wsX4_isWhat := goodIn_r _ [24, 14, 15, 7, 16] (by decide +kernel) (by decide +kernel)
set_option maxRecDepth 20000 in
theorem gX4_chance_X4_isWhat : GoodIn wsX4_chance (va_wsS RX4 145 yX4_isWhat wsX4_isWhat) := goodIn_app (goodIn_of _ (by decide +kernel)) ggX4_chance_X4_isWhat
set_option maxRecDepth 20000 in
theorem ggX4_chance_X4_lowest : GoodIn wsX4_chance wsX4_lowest := goodIn_r _ [27, 28, 29, 30, 31, 1, 32, 33, 7, 34] (by decide +kernel) (by decide +kernel)
set_option maxRecDepth 20000 in
theorem gX4_chance_X4_lowest : GoodIn wsX4_chance (va_wsS RX4 148 yX4_lowest wsX4_lowest) := goodIn_app (goodIn_of _ (by decide +kernel)) ggX4_chance_X4_lowest
theorem dX4_chance_0 : decode cX4_chance 0 = .ok (.aload_n 0, 1) := by decide +kernel
theorem dX4_chance_1 : decode cX4_chance 1 = .ok (.iload_n 1, 1) := by decide +kernel
theorem dX4_chance_2 : decode cX4_chance 2 = .ok (.invokevirtual 123, 3) := by decide +kernel
theorem dX4_chance_5 : decode cX4_chance 5 = .ok (.astore 4, 2) := by decide +kernel
theorem dX4_chance_7 : decode cX4_chance 7 = .ok (.aload 4, 2) := by decide +kernel
theorem dX4_chance_9 : decode cX4_chance 9 = .ok (.ifnull 18, 3) := by decide +kernel
theorem dX4_chance_12 : decode cX4_chance 12 = .ok (.aload_n 0, 1) := by decide +kernel
theorem dX4_chance_13 : decode cX4_chance 13 = .ok (.iload_n 2, 1) := by decide +kernel
theorem dX4_chance_14 : decode cX4_chance 14 = .ok (.invokevirtual 80, 3) := by decide +kernel
theorem dX4_chance_17 : decode cX4_chance 17 = .ok (.ifCond .eq 10, 3) := by decide +kernel
theorem dX4_chance_20 : decode cX4_chance 20 = .ok (.iload_n 3, 1) := by decide +kernel
theorem dX4_chance_21 : decode cX4_chance 21 = .ok (.invokestatic 145, 3) := by decide +kernel
theorem dX4_chance_24 : decode cX4_chance 24 = .ok (.ifCond .ne 7, 3) := by decide +kernel
theorem dX4_chance_27 : decode cX4_chance 27 = .ok (.ldc2_w 143, 3) := by decide +kernel
theorem dX4_chance_30 : decode cX4_chance 30 = .ok (.lreturn, 1) := by decide +kernel
theorem dX4_chance_31 : decode cX4_chance 31 = .ok (.aload 4, 2) := by decide +kernel
theorem dX4_chance_33 : decode cX4_chance 33 = .ok (.getfield 130, 3) := by decide +kernel
theorem dX4_chance_36 : decode cX4_chance 36 = .ok (.iload_n 2, 1) := by decide +kernel
theorem dX4_chance_37 : decode cX4_chance 37 = .ok (.laload, 1) := by decide +kernel
theorem dX4_chance_38 : decode cX4_chance 38 = .ok (.aload 4, 2) := by decide +kernel
theorem dX4_chance_40 : decode cX4_chance 40 = .ok (.getfield 139, 3) := by decide +kernel
theorem dX4_chance_43 : decode cX4_chance 43 = .ok (.iload_n 3, 1) := by decide +kernel
theorem dX4_chance_44 : decode cX4_chance 44 = .ok (.invokestatic 148, 3) := by decide +kernel
theorem dX4_chance_47 : decode cX4_chance 47 = .ok (.lreturn, 1) := by decide +kernel
set_option maxRecDepth 20000 in
theorem ggX4_within_X4_lawAt : GoodIn wsX4_within wsX4_lawAt := goodIn_r _ [7, 8, 9, 10, 11, 6, 12, 13, 14, 15, 45, 46, 47, 48, 49, 50, 51, 52, 42, 43, 44] (by decide +kernel) (by decide +kernel)
set_option maxRecDepth 20000 in
theorem gX4_within_X4_lawAt : GoodIn wsX4_within (wsV RX4 123 RX4 yX4_lawAt wsX4_lawAt) := goodIn_app (goodIn_of _ (by decide +kernel)) ggX4_within_X4_lawAt
set_option maxRecDepth 20000 in
theorem ggX4_within_X4_isSet : GoodIn wsX4_within wsX4_isSet := goodIn_r _ [19, 20, 13, 14, 6, 15, 45, 46, 47, 48, 49, 50, 51, 52] (by decide +kernel) (by decide +kernel)
set_option maxRecDepth 20000 in
theorem gX4_within_X4_isSet : GoodIn wsX4_within (wsV RX4 80 RX4 yX4_isSet wsX4_isSet) := goodIn_app (goodIn_of _ (by decide +kernel)) ggX4_within_X4_isSet
set_option maxRecDepth 20000 in
theorem ggX4_within_X4_isWhat : GoodIn wsX4_within wsX4_isWhat := goodIn_r _ [23, 13, 14, 6, 15] (by decide +kernel) (by decide +kernel)
set_option maxRecDepth 20000 in
theorem gX4_within_X4_isWhat : GoodIn wsX4_within (va_wsS RX4 145 yX4_isWhat wsX4_isWhat) := goodIn_app (goodIn_of _ (by decide +kernel)) ggX4_within_X4_isWhat
set_option maxRecDepth 20000 in
theorem ggX4_within_X0_sumFitting : GoodIn wsX4_within wsX0_sumFitting := goodIn_r _ [28, 29, 30, 6, 31, 42, 43, 44] (by decide +kernel) (by decide +kernel)
set_option maxRecDepth 20000 in
theorem gX4_within_X0_sumFitting : GoodIn wsX4_within (wsV RX4 152 RX0 yX0_sumFitting wsX0_sumFitting) := goodIn_app (goodIn_of _ (by decide +kernel)) ggX4_within_X0_sumFitting
set_option maxRecDepth 20000 in
theorem ggX4_within_X4_lowest : GoodIn wsX4_within wsX4_lowest := goodIn_r _ [34, 35, 36, 37, 38, 1, 39, 40, 6, 41] (by decide +kernel) (by decide +kernel)
set_option maxRecDepth 20000 in
theorem gX4_within_X4_lowest : GoodIn wsX4_within (va_wsS RX4 148 yX4_lowest wsX4_lowest) := goodIn_app (goodIn_of _ (by decide +kernel)) ggX4_within_X4_lowest
theorem dX4_within_0 : decode cX4_within 0 = .ok (.aload_n 0, 1) := by decide +kernel
theorem dX4_within_1 : decode cX4_within 1 = .ok (.iload_n 1, 1) := by decide +kernel
theorem dX4_within_2 : decode cX4_within 2 = .ok (.invokevirtual 123, 3) := by decide +kernel
theorem dX4_within_5 : decode cX4_within 5 = .ok (.astore 4, 2) := by decide +kernel
theorem dX4_within_7 : decode cX4_within 7 = .ok (.aload 4, 2) := by decide +kernel
theorem dX4_within_9 : decode cX4_within 9 = .ok (.ifnull 18, 3) := by decide +kernel
theorem dX4_within_12 : decode cX4_within 12 = .ok (.aload_n 0, 1) := by decide +kernel
theorem dX4_within_13 : decode cX4_within 13 = .ok (.iload_n 2, 1) := by decide +kernel
theorem dX4_within_14 : decode cX4_within 14 = .ok (.invokevirtual 80, 3) := by decide +kernel
theorem dX4_within_17 : decode cX4_within 17 = .ok (.ifCond .eq 10, 3) := by decide +kernel
theorem dX4_within_20 : decode cX4_within 20 = .ok (.iload_n 3, 1) := by decide +kernel
theorem dX4_within_21 : decode cX4_within 21 = .ok (.invokestatic 145, 3) := by decide +kernel
theorem dX4_within_24 : decode cX4_within 24 = .ok (.ifCond .ne 7, 3) := by decide +kernel
theorem dX4_within_27 : decode cX4_within 27 = .ok (.ldc2_w 143, 3) := by decide +kernel
theorem dX4_within_30 : decode cX4_within 30 = .ok (.lreturn, 1) := by decide +kernel
theorem dX4_within_31 : decode cX4_within 31 = .ok (.aload 4, 2) := by decide +kernel
theorem dX4_within_33 : decode cX4_within 33 = .ok (.iload_n 2, 1) := by decide +kernel
theorem dX4_within_34 : decode cX4_within 34 = .ok (.iconst 0, 1) := by decide +kernel
theorem dX4_within_35 : decode cX4_within 35 = .ok (.invokevirtual 152, 3) := by decide +kernel
theorem dX4_within_38 : decode cX4_within 38 = .ok (.aload 4, 2) := by decide +kernel
theorem dX4_within_40 : decode cX4_within 40 = .ok (.getfield 139, 3) := by decide +kernel
theorem dX4_within_43 : decode cX4_within 43 = .ok (.iload_n 3, 1) := by decide +kernel
theorem dX4_within_44 : decode cX4_within 44 = .ok (.invokestatic 148, 3) := by decide +kernel
theorem dX4_within_47 : decode cX4_within 47 = .ok (.lreturn, 1) := by decide +kernel
set_option maxRecDepth 20000 in
theorem ggX4_out_X4_lawAt : GoodIn wsX4_out wsX4_lawAt := goodIn_r _ [7, 8, 9, 10, 11, 6, 12, 13, 14, 15, 45, 46, 47, 48, 49, 50, 51, 52, 42, 43, 44] (by decide +kernel) (by decide +kernel)
set_option maxRecDepth 20000 in
theorem gX4_out_X4_lawAt : GoodIn wsX4_out (wsV RX4 123 RX4 yX4_lawAt wsX4_lawAt) := goodIn_app (goodIn_of _ (by decide +kernel)) ggX4_out_X4_lawAt
set_option maxRecDepth 20000 in
theorem ggX4_out_X4_isSet : GoodIn wsX4_out wsX4_isSet := goodIn_r _ [19, 20, 13, 14, 6, 15, 45, 46, 47, 48, 49, 50, 51, 52] (by decide +kernel) (by decide +kernel)
set_option maxRecDepth 20000 in
theorem gX4_out_X4_isSet : GoodIn wsX4_out (wsV RX4 80 RX4 yX4_isSet wsX4_isSet) := goodIn_app (goodIn_of _ (by decide +kernel)) ggX4_out_X4_isSet
set_option maxRecDepth 20000 in
theorem ggX4_out_X4_isWhat : GoodIn wsX4_out wsX4_isWhat := goodIn_r _ [23, 13, 14, 6, 15] (by decide +kernel) (by decide +kernel)
set_option maxRecDepth 20000 in
theorem gX4_out_X4_isWhat : GoodIn wsX4_out (va_wsS RX4 145 yX4_isWhat wsX4_isWhat) := goodIn_app (goodIn_of _ (by decide +kernel)) ggX4_out_X4_isWhat
set_option maxRecDepth 20000 in
theorem ggX4_out_X0_sumFitting : GoodIn wsX4_out wsX0_sumFitting := goodIn_r _ [28, 29, 30, 6, 31, 42, 43, 44] (by decide +kernel) (by decide +kernel)
set_option maxRecDepth 20000 in
theorem gX4_out_X0_sumFitting : GoodIn wsX4_out (wsV RX4 152 RX0 yX0_sumFitting wsX0_sumFitting) := goodIn_app (goodIn_of _ (by decide +kernel)) ggX4_out_X0_sumFitting
set_option maxRecDepth 20000 in
theorem ggX4_out_X4_lowest : GoodIn wsX4_out wsX4_lowest := goodIn_r _ [34, 35, 36, 37, 38, 1, 39, 40, 6, 41] (by decide +kernel) (by decide +kernel)
set_option maxRecDepth 20000 in
theorem gX4_out_X4_lowest : GoodIn wsX4_out (va_wsS RX4 148 yX4_lowest wsX4_lowest) := goodIn_app (goodIn_of _ (by decide +kernel)) ggX4_out_X4_lowest
theorem dX4_out_0 : decode cX4_out 0 = .ok (.aload_n 0, 1) := by decide +kernel
theorem dX4_out_1 : decode cX4_out 1 = .ok (.iload_n 1, 1) := by decide +kernel
theorem dX4_out_2 : decode cX4_out 2 = .ok (.invokevirtual 123, 3) := by decide +kernel
theorem dX4_out_5 : decode cX4_out 5 = .ok (.astore 4, 2) := by decide +kernel
theorem dX4_out_7 : decode cX4_out 7 = .ok (.aload 4, 2) := by decide +kernel
theorem dX4_out_9 : decode cX4_out 9 = .ok (.ifnull 18, 3) := by decide +kernel
theorem dX4_out_12 : decode cX4_out 12 = .ok (.aload_n 0, 1) := by decide +kernel
theorem dX4_out_13 : decode cX4_out 13 = .ok (.iload_n 2, 1) := by decide +kernel
theorem dX4_out_14 : decode cX4_out 14 = .ok (.invokevirtual 80, 3) := by decide +kernel
theorem dX4_out_17 : decode cX4_out 17 = .ok (.ifCond .eq 10, 3) := by decide +kernel
theorem dX4_out_20 : decode cX4_out 20 = .ok (.iload_n 3, 1) := by decide +kernel
theorem dX4_out_21 : decode cX4_out 21 = .ok (.invokestatic 145, 3) := by decide +kernel
theorem dX4_out_24 : decode cX4_out 24 = .ok (.ifCond .ne 7, 3) := by decide +kernel
theorem dX4_out_27 : decode cX4_out 27 = .ok (.ldc2_w 143, 3) := by decide +kernel
theorem dX4_out_30 : decode cX4_out 30 = .ok (.lreturn, 1) := by decide +kernel
theorem dX4_out_31 : decode cX4_out 31 = .ok (.aload 4, 2) := by decide +kernel
theorem dX4_out_33 : decode cX4_out 33 = .ok (.iconst 0, 1) := by decide +kernel
theorem dX4_out_34 : decode cX4_out 34 = .ok (.iload_n 2, 1) := by decide +kernel
theorem dX4_out_35 : decode cX4_out 35 = .ok (.invokevirtual 152, 3) := by decide +kernel
theorem dX4_out_38 : decode cX4_out 38 = .ok (.aload 4, 2) := by decide +kernel
theorem dX4_out_40 : decode cX4_out 40 = .ok (.getfield 139, 3) := by decide +kernel
theorem dX4_out_43 : decode cX4_out 43 = .ok (.iload_n 3, 1) := by decide +kernel
theorem dX4_out_44 : decode cX4_out 44 = .ok (.invokestatic 148, 3) := by decide +kernel
theorem dX4_out_47 : decode cX4_out 47 = .ok (.lreturn, 1) := by decide +kernel
set_option maxRecDepth 20000 in
theorem ggX4_size_X4_lawAt : GoodIn wsX4_size wsX4_lawAt := goodIn_r _ [7, 8, 9, 10, 11, 6, 12, 13, 14, 15, 50, 51, 52, 53, 54, 55, 56, 57, 47, 48, 49] (by decide +kernel) (by decide +kernel)
set_option maxRecDepth 20000 in
theorem gX4_size_X4_lawAt : GoodIn wsX4_size (wsV RX4 123 RX4 yX4_lawAt wsX4_lawAt) := goodIn_app (goodIn_of _ (by decide +kernel)) ggX4_size_X4_lawAt
set_option maxRecDepth 20000 in
theorem ggX4_size_X4_isCount : GoodIn wsX4_size wsX4_isCount := goodIn_r _ [19, 20, 13, 14, 6, 15, 50, 51, 52, 53, 54, 55, 56, 57] (by decide +kernel) (by decide +kernel)
set_option maxRecDepth 20000 in
theorem gX4_size_X4_isCount : GoodIn wsX4_size (wsV RX4 156 RX4 yX4_isCount wsX4_isCount) := goodIn_app (goodIn_of _ (by decide +kernel)) ggX4_size_X4_isCount
set_option maxRecDepth 20000 in
theorem ggX4_size_X4_isWhat : GoodIn wsX4_size wsX4_isWhat := goodIn_r _ [23, 13, 14, 6, 15] (by decide +kernel) (by decide +kernel)
set_option maxRecDepth 20000 in
theorem gX4_size_X4_isWhat : GoodIn wsX4_size (va_wsS RX4 145 yX4_isWhat wsX4_isWhat) := goodIn_app (goodIn_of _ (by decide +kernel)) ggX4_size_X4_isWhat
set_option maxRecDepth 20000 in
theorem ggX4_size_X0_sumOfSize : GoodIn wsX4_size wsX0_sumOfSize := goodIn_r _ [28, 29, 30, 31, 32, 33, 34, 35, 36, 47, 48, 49] (by decide +kernel) (by decide +kernel)
set_option maxRecDepth 20000 in
theorem gX4_size_X0_sumOfSize : GoodIn wsX4_size (wsV RX4 159 RX0 yX0_sumOfSize wsX0_sumOfSize) := goodIn_app (goodIn_of _ (by decide +kernel)) ggX4_size_X0_sumOfSize
set_option maxRecDepth 20000 in
theorem ggX4_size_X4_lowest : GoodIn wsX4_size wsX4_lowest := goodIn_r _ [39, 40, 41, 42, 43, 1, 44, 45, 6, 46] (by decide +kernel) (by decide +kernel)
set_option maxRecDepth 20000 in
theorem gX4_size_X4_lowest : GoodIn wsX4_size (va_wsS RX4 148 yX4_lowest wsX4_lowest) := goodIn_app (goodIn_of _ (by decide +kernel)) ggX4_size_X4_lowest
theorem dX4_size_0 : decode cX4_size 0 = .ok (.aload_n 0, 1) := by decide +kernel
theorem dX4_size_1 : decode cX4_size 1 = .ok (.iload_n 1, 1) := by decide +kernel
theorem dX4_size_2 : decode cX4_size 2 = .ok (.invokevirtual 123, 3) := by decide +kernel
theorem dX4_size_5 : decode cX4_size 5 = .ok (.astore 4, 2) := by decide +kernel
theorem dX4_size_7 : decode cX4_size 7 = .ok (.aload 4, 2) := by decide +kernel
theorem dX4_size_9 : decode cX4_size 9 = .ok (.ifnull 18, 3) := by decide +kernel
theorem dX4_size_12 : decode cX4_size 12 = .ok (.aload_n 0, 1) := by decide +kernel
theorem dX4_size_13 : decode cX4_size 13 = .ok (.iload_n 2, 1) := by decide +kernel
theorem dX4_size_14 : decode cX4_size 14 = .ok (.invokevirtual 156, 3) := by decide +kernel
theorem dX4_size_17 : decode cX4_size 17 = .ok (.ifCond .eq 10, 3) := by decide +kernel
theorem dX4_size_20 : decode cX4_size 20 = .ok (.iload_n 3, 1) := by decide +kernel
theorem dX4_size_21 : decode cX4_size 21 = .ok (.invokestatic 145, 3) := by decide +kernel
theorem dX4_size_24 : decode cX4_size 24 = .ok (.ifCond .ne 7, 3) := by decide +kernel
theorem dX4_size_27 : decode cX4_size 27 = .ok (.ldc2_w 143, 3) := by decide +kernel
theorem dX4_size_30 : decode cX4_size 30 = .ok (.lreturn, 1) := by decide +kernel
theorem dX4_size_31 : decode cX4_size 31 = .ok (.aload 4, 2) := by decide +kernel
theorem dX4_size_33 : decode cX4_size 33 = .ok (.iload_n 2, 1) := by decide +kernel
theorem dX4_size_34 : decode cX4_size 34 = .ok (.invokevirtual 159, 3) := by decide +kernel
theorem dX4_size_37 : decode cX4_size 37 = .ok (.aload 4, 2) := by decide +kernel
theorem dX4_size_39 : decode cX4_size 39 = .ok (.getfield 139, 3) := by decide +kernel
theorem dX4_size_42 : decode cX4_size 42 = .ok (.iload_n 3, 1) := by decide +kernel
theorem dX4_size_43 : decode cX4_size 43 = .ok (.invokestatic 148, 3) := by decide +kernel
theorem dX4_size_46 : decode cX4_size 46 = .ok (.lreturn, 1) := by decide +kernel
set_option maxRecDepth 20000 in
theorem ggX4_mean_X4_lawAt : GoodIn wsX4_mean wsX4_lawAt := goodIn_r _ [7, 8, 9, 10, 11, 6, 12, 13, 14, 15, 45, 46, 47, 48, 49, 50, 51, 52, 42, 43, 44] (by decide +kernel) (by decide +kernel)
set_option maxRecDepth 20000 in
theorem gX4_mean_X4_lawAt : GoodIn wsX4_mean (wsV RX4 123 RX4 yX4_lawAt wsX4_lawAt) := goodIn_app (goodIn_of _ (by decide +kernel)) ggX4_mean_X4_lawAt
set_option maxRecDepth 20000 in
theorem ggX4_mean_X4_isWhat : GoodIn wsX4_mean wsX4_isWhat := goodIn_r _ [18, 13, 14, 6, 15] (by decide +kernel) (by decide +kernel)
set_option maxRecDepth 20000 in
theorem gX4_mean_X4_isWhat : GoodIn wsX4_mean (va_wsS RX4 145 yX4_isWhat wsX4_isWhat) := goodIn_app (goodIn_of _ (by decide +kernel)) ggX4_mean_X4_isWhat
set_option maxRecDepth 20000 in
theorem ggX4_mean_X0_sumOfCounts : GoodIn wsX4_mean wsX0_sumOfCounts := goodIn_r _ [23, 24, 25, 26, 27, 28, 29, 30, 31, 42, 43, 44] (by decide +kernel) (by decide +kernel)
set_option maxRecDepth 20000 in
theorem gX4_mean_X0_sumOfCounts : GoodIn wsX4_mean (wsV RX4 162 RX0 yX0_sumOfCounts wsX0_sumOfCounts) := goodIn_app (goodIn_of _ (by decide +kernel)) ggX4_mean_X0_sumOfCounts
set_option maxRecDepth 20000 in
theorem ggX4_mean_X4_lowest : GoodIn wsX4_mean wsX4_lowest := goodIn_r _ [34, 35, 36, 37, 38, 1, 39, 40, 6, 41] (by decide +kernel) (by decide +kernel)
set_option maxRecDepth 20000 in
theorem gX4_mean_X4_lowest : GoodIn wsX4_mean (va_wsS RX4 148 yX4_lowest wsX4_lowest) := goodIn_app (goodIn_of _ (by decide +kernel)) ggX4_mean_X4_lowest
theorem dX4_mean_0 : decode cX4_mean 0 = .ok (.aload_n 0, 1) := by decide +kernel
theorem dX4_mean_1 : decode cX4_mean 1 = .ok (.iload_n 1, 1) := by decide +kernel
theorem dX4_mean_2 : decode cX4_mean 2 = .ok (.invokevirtual 123, 3) := by decide +kernel
theorem dX4_mean_5 : decode cX4_mean 5 = .ok (.astore_n 3, 1) := by decide +kernel
theorem dX4_mean_6 : decode cX4_mean 6 = .ok (.aload_n 3, 1) := by decide +kernel
theorem dX4_mean_7 : decode cX4_mean 7 = .ok (.ifnull 10, 3) := by decide +kernel
theorem dX4_mean_10 : decode cX4_mean 10 = .ok (.iload_n 2, 1) := by decide +kernel
theorem dX4_mean_11 : decode cX4_mean 11 = .ok (.invokestatic 145, 3) := by decide +kernel
theorem dX4_mean_14 : decode cX4_mean 14 = .ok (.ifCond .ne 7, 3) := by decide +kernel
theorem dX4_mean_17 : decode cX4_mean 17 = .ok (.ldc2_w 143, 3) := by decide +kernel
theorem dX4_mean_20 : decode cX4_mean 20 = .ok (.lreturn, 1) := by decide +kernel
theorem dX4_mean_21 : decode cX4_mean 21 = .ok (.aload_n 3, 1) := by decide +kernel
theorem dX4_mean_22 : decode cX4_mean 22 = .ok (.invokevirtual 162, 3) := by decide +kernel
theorem dX4_mean_25 : decode cX4_mean 25 = .ok (.aload_n 3, 1) := by decide +kernel
theorem dX4_mean_26 : decode cX4_mean 26 = .ok (.getfield 139, 3) := by decide +kernel
theorem dX4_mean_29 : decode cX4_mean 29 = .ok (.iload_n 2, 1) := by decide +kernel
theorem dX4_mean_30 : decode cX4_mean 30 = .ok (.invokestatic 148, 3) := by decide +kernel
theorem dX4_mean_33 : decode cX4_mean 33 = .ok (.lreturn, 1) := by decide +kernel
set_option maxRecDepth 20000 in
theorem ggX4_spread_X4_lawAt : GoodIn wsX4_spread wsX4_lawAt := goodIn_r _ [7, 8, 9, 10, 11, 6, 12, 13, 14, 15, 49, 50, 51, 52, 53, 54, 55, 56, 46, 47, 48] (by decide +kernel) (by decide +kernel)
set_option maxRecDepth 20000 in
theorem gX4_spread_X4_lawAt : GoodIn wsX4_spread (wsV RX4 123 RX4 yX4_lawAt wsX4_lawAt) := goodIn_app (goodIn_of _ (by decide +kernel)) ggX4_spread_X4_lawAt
set_option maxRecDepth 20000 in
theorem ggX4_spread_X4_isWhat : GoodIn wsX4_spread wsX4_isWhat := goodIn_r _ [18, 13, 14, 6, 15] (by decide +kernel) (by decide +kernel)
set_option maxRecDepth 20000 in
theorem gX4_spread_X4_isWhat : GoodIn wsX4_spread (va_wsS RX4 145 yX4_isWhat wsX4_isWhat) := goodIn_app (goodIn_of _ (by decide +kernel)) ggX4_spread_X4_isWhat
set_option maxRecDepth 20000 in
theorem ggX4_spread_X0_sumOfCounts : GoodIn wsX4_spread wsX0_sumOfCounts := goodIn_r _ [23, 24, 25, 26, 27, 28, 29, 30, 31, 46, 47, 48] (by decide +kernel) (by decide +kernel)
set_option maxRecDepth 20000 in
theorem gX4_spread_X0_sumOfCounts : GoodIn wsX4_spread (wsV RX4 162 RX0 yX0_sumOfCounts wsX0_sumOfCounts) := goodIn_app (goodIn_of _ (by decide +kernel)) ggX4_spread_X0_sumOfCounts
set_option maxRecDepth 20000 in
theorem ggX4_spread_X0_sumOfSquares : GoodIn wsX4_spread wsX0_sumOfSquares := goodIn_r _ [35, 24, 25, 26, 27, 28, 29, 30, 31, 46, 47, 48] (by decide +kernel) (by decide +kernel)
set_option maxRecDepth 20000 in
theorem gX4_spread_X0_sumOfSquares : GoodIn wsX4_spread (wsV RX4 166 RX0 yX0_sumOfSquares wsX0_sumOfSquares) := goodIn_app (goodIn_of _ (by decide +kernel)) ggX4_spread_X0_sumOfSquares
set_option maxRecDepth 20000 in
theorem ggX4_spread_X4_lowest : GoodIn wsX4_spread wsX4_lowest := goodIn_r _ [38, 39, 40, 41, 42, 1, 43, 44, 6, 45] (by decide +kernel) (by decide +kernel)
set_option maxRecDepth 20000 in
theorem gX4_spread_X4_lowest : GoodIn wsX4_spread (va_wsS RX4 148 yX4_lowest wsX4_lowest) := goodIn_app (goodIn_of _ (by decide +kernel)) ggX4_spread_X4_lowest
theorem dX4_spread_0 : decode cX4_spread 0 = .ok (.aload_n 0, 1) := by decide +kernel
theorem dX4_spread_1 : decode cX4_spread 1 = .ok (.iload_n 1, 1) := by decide +kernel
theorem dX4_spread_2 : decode cX4_spread 2 = .ok (.invokevirtual 123, 3) := by decide +kernel
theorem dX4_spread_5 : decode cX4_spread 5 = .ok (.astore_n 3, 1) := by decide +kernel
theorem dX4_spread_6 : decode cX4_spread 6 = .ok (.aload_n 3, 1) := by decide +kernel
theorem dX4_spread_7 : decode cX4_spread 7 = .ok (.ifnull 10, 3) := by decide +kernel
theorem dX4_spread_10 : decode cX4_spread 10 = .ok (.iload_n 2, 1) := by decide +kernel
theorem dX4_spread_11 : decode cX4_spread 11 = .ok (.invokestatic 145, 3) := by decide +kernel
theorem dX4_spread_14 : decode cX4_spread 14 = .ok (.ifCond .ne 7, 3) := by decide +kernel
theorem dX4_spread_17 : decode cX4_spread 17 = .ok (.ldc2_w 143, 3) := by decide +kernel
theorem dX4_spread_20 : decode cX4_spread 20 = .ok (.lreturn, 1) := by decide +kernel
theorem dX4_spread_21 : decode cX4_spread 21 = .ok (.aload_n 3, 1) := by decide +kernel
theorem dX4_spread_22 : decode cX4_spread 22 = .ok (.invokevirtual 162, 3) := by decide +kernel
theorem dX4_spread_25 : decode cX4_spread 25 = .ok (.lstore 4, 2) := by decide +kernel
theorem dX4_spread_27 : decode cX4_spread 27 = .ok (.aload_n 3, 1) := by decide +kernel
theorem dX4_spread_28 : decode cX4_spread 28 = .ok (.invokevirtual 166, 3) := by decide +kernel
theorem dX4_spread_31 : decode cX4_spread 31 = .ok (.aload_n 3, 1) := by decide +kernel
theorem dX4_spread_32 : decode cX4_spread 32 = .ok (.getfield 139, 3) := by decide +kernel
theorem dX4_spread_35 : decode cX4_spread 35 = .ok (.lmul, 1) := by decide +kernel
theorem dX4_spread_36 : decode cX4_spread 36 = .ok (.lload 4, 2) := by decide +kernel
theorem dX4_spread_38 : decode cX4_spread 38 = .ok (.lload 4, 2) := by decide +kernel
theorem dX4_spread_40 : decode cX4_spread 40 = .ok (.lmul, 1) := by decide +kernel
theorem dX4_spread_41 : decode cX4_spread 41 = .ok (.lsub, 1) := by decide +kernel
theorem dX4_spread_42 : decode cX4_spread 42 = .ok (.lstore 6, 2) := by decide +kernel
theorem dX4_spread_44 : decode cX4_spread 44 = .ok (.lload 6, 2) := by decide +kernel
theorem dX4_spread_46 : decode cX4_spread 46 = .ok (.aload_n 3, 1) := by decide +kernel
theorem dX4_spread_47 : decode cX4_spread 47 = .ok (.getfield 139, 3) := by decide +kernel
theorem dX4_spread_50 : decode cX4_spread 50 = .ok (.aload_n 3, 1) := by decide +kernel
theorem dX4_spread_51 : decode cX4_spread 51 = .ok (.getfield 139, 3) := by decide +kernel
theorem dX4_spread_54 : decode cX4_spread 54 = .ok (.lmul, 1) := by decide +kernel
theorem dX4_spread_55 : decode cX4_spread 55 = .ok (.iload_n 2, 1) := by decide +kernel
theorem dX4_spread_56 : decode cX4_spread 56 = .ok (.invokestatic 148, 3) := by decide +kernel
theorem dX4_spread_59 : decode cX4_spread 59 = .ok (.lreturn, 1) := by decide +kernel
set_option maxRecDepth 20000 in
theorem ggX4_both_X4_lawAt : GoodIn wsX4_both wsX4_lawAt := goodIn_r _ [6, 7, 8, 9, 10, 5, 11, 12, 13, 14, 50, 51, 52, 53, 54, 55, 56, 57, 47, 48, 49] (by decide +kernel) (by decide +kernel)
set_option maxRecDepth 20000 in
theorem gX4_both_X4_lawAt : GoodIn wsX4_both (wsV RX4 123 RX4 yX4_lawAt wsX4_lawAt) := goodIn_app (goodIn_of _ (by decide +kernel)) ggX4_both_X4_lawAt
set_option maxRecDepth 20000 in
theorem ggX4_both_X4_isThing : GoodIn wsX4_both wsX4_isThing := goodIn_r _ [18, 19, 12, 13, 5, 14, 50, 51, 52, 53, 54, 55, 56, 57] (by decide +kernel) (by decide +kernel)
set_option maxRecDepth 20000 in
theorem gX4_both_X4_isThing : GoodIn wsX4_both (wsV RX4 66 RX4 yX4_isThing wsX4_isThing) := goodIn_app (goodIn_of _ (by decide +kernel)) ggX4_both_X4_isThing
set_option maxRecDepth 20000 in
theorem ggX4_both_X4_isWhat : GoodIn wsX4_both wsX4_isWhat := goodIn_r _ [22, 12, 13, 5, 14] (by decide +kernel) (by decide +kernel)
set_option maxRecDepth 20000 in
theorem gX4_both_X4_isWhat : GoodIn wsX4_both (va_wsS RX4 145 yX4_isWhat wsX4_isWhat) := goodIn_app (goodIn_of _ (by decide +kernel)) ggX4_both_X4_isWhat
set_option maxRecDepth 20000 in
theorem ggX4_both_X0_apartness : GoodIn wsX4_both wsX0_apartness := goodIn_r _ [27, 28, 29, 30, 31, 26, 32, 33, 34, 5, 35, 47, 48, 49] (by decide +kernel) (by decide +kernel)
set_option maxRecDepth 20000 in
theorem gX4_both_X0_apartness : GoodIn wsX4_both (wsV RX4 169 RX0 yX0_apartness wsX0_apartness) := goodIn_app (goodIn_of _ (by decide +kernel)) ggX4_both_X0_apartness
set_option maxRecDepth 20000 in
theorem ggX4_both_X4_lowest : GoodIn wsX4_both wsX4_lowest := goodIn_r _ [38, 39, 40, 41, 42, 43, 44, 45, 5, 46] (by decide +kernel) (by decide +kernel)
set_option maxRecDepth 20000 in
theorem gX4_both_X4_lowest : GoodIn wsX4_both (va_wsS RX4 148 yX4_lowest wsX4_lowest) := goodIn_app (goodIn_of _ (by decide +kernel)) ggX4_both_X4_lowest
theorem dX4_both_0 : decode cX4_both 0 = .ok (.aload_n 0, 1) := by decide +kernel
theorem dX4_both_1 : decode cX4_both 1 = .ok (.iload_n 1, 1) := by decide +kernel
theorem dX4_both_2 : decode cX4_both 2 = .ok (.invokevirtual 123, 3) := by decide +kernel
theorem dX4_both_5 : decode cX4_both 5 = .ok (.astore 5, 2) := by decide +kernel
theorem dX4_both_7 : decode cX4_both 7 = .ok (.aload 5, 2) := by decide +kernel
theorem dX4_both_9 : decode cX4_both 9 = .ok (.ifnull 32, 3) := by decide +kernel
theorem dX4_both_12 : decode cX4_both 12 = .ok (.aload_n 0, 1) := by decide +kernel
theorem dX4_both_13 : decode cX4_both 13 = .ok (.iload_n 2, 1) := by decide +kernel
theorem dX4_both_14 : decode cX4_both 14 = .ok (.invokevirtual 66, 3) := by decide +kernel
theorem dX4_both_17 : decode cX4_both 17 = .ok (.ifCond .eq 24, 3) := by decide +kernel
theorem dX4_both_20 : decode cX4_both 20 = .ok (.aload_n 0, 1) := by decide +kernel
theorem dX4_both_21 : decode cX4_both 21 = .ok (.iload_n 3, 1) := by decide +kernel
theorem dX4_both_22 : decode cX4_both 22 = .ok (.invokevirtual 66, 3) := by decide +kernel
theorem dX4_both_25 : decode cX4_both 25 = .ok (.ifCond .eq 16, 3) := by decide +kernel
theorem dX4_both_28 : decode cX4_both 28 = .ok (.iload_n 2, 1) := by decide +kernel
theorem dX4_both_29 : decode cX4_both 29 = .ok (.iload_n 3, 1) := by decide +kernel
theorem dX4_both_30 : decode cX4_both 30 = .ok (.if_icmp .eq 11, 3) := by decide +kernel
theorem dX4_both_33 : decode cX4_both 33 = .ok (.iload 4, 2) := by decide +kernel
theorem dX4_both_35 : decode cX4_both 35 = .ok (.invokestatic 145, 3) := by decide +kernel
theorem dX4_both_38 : decode cX4_both 38 = .ok (.ifCond .ne 5, 3) := by decide +kernel
theorem dX4_both_41 : decode cX4_both 41 = .ok (.lconst 0, 1) := by decide +kernel
theorem dX4_both_42 : decode cX4_both 42 = .ok (.lreturn, 1) := by decide +kernel
theorem dX4_both_43 : decode cX4_both 43 = .ok (.aload 5, 2) := by decide +kernel
theorem dX4_both_45 : decode cX4_both 45 = .ok (.iconst 1, 1) := by decide +kernel
theorem dX4_both_46 : decode cX4_both 46 = .ok (.iload_n 2, 1) := by decide +kernel
theorem dX4_both_47 : decode cX4_both 47 = .ok (.ishl, 1) := by decide +kernel
theorem dX4_both_48 : decode cX4_both 48 = .ok (.iconst 1, 1) := by decide +kernel
theorem dX4_both_49 : decode cX4_both 49 = .ok (.iload_n 3, 1) := by decide +kernel
theorem dX4_both_50 : decode cX4_both 50 = .ok (.ishl, 1) := by decide +kernel
theorem dX4_both_51 : decode cX4_both 51 = .ok (.invokevirtual 169, 3) := by decide +kernel
theorem dX4_both_54 : decode cX4_both 54 = .ok (.aload 5, 2) := by decide +kernel
theorem dX4_both_56 : decode cX4_both 56 = .ok (.getfield 139, 3) := by decide +kernel
theorem dX4_both_59 : decode cX4_both 59 = .ok (.aload 5, 2) := by decide +kernel
theorem dX4_both_61 : decode cX4_both 61 = .ok (.getfield 139, 3) := by decide +kernel
theorem dX4_both_64 : decode cX4_both 64 = .ok (.lmul, 1) := by decide +kernel
theorem dX4_both_65 : decode cX4_both 65 = .ok (.iload 4, 2) := by decide +kernel
theorem dX4_both_67 : decode cX4_both 67 = .ok (.invokestatic 148, 3) := by decide +kernel
theorem dX4_both_70 : decode cX4_both 70 = .ok (.lreturn, 1) := by decide +kernel
set_option maxRecDepth 20000 in
theorem ggX4_shuns_X4_lawAt : GoodIn wsX4_shuns wsX4_lawAt := goodIn_r _ [6, 7, 8, 9, 10, 5, 11, 12, 13, 14, 28, 29, 30, 31, 32, 33, 34, 35, 36, 37, 38] (by decide +kernel) (by decide +kernel)
set_option maxRecDepth 20000 in
theorem gX4_shuns_X4_lawAt : GoodIn wsX4_shuns (wsV RX4 123 RX4 yX4_lawAt wsX4_lawAt) := goodIn_app (goodIn_of _ (by decide +kernel)) ggX4_shuns_X4_lawAt
set_option maxRecDepth 20000 in
theorem ggX4_shuns_X0_apartness : GoodIn wsX4_shuns wsX0_apartness := goodIn_r _ [19, 20, 21, 22, 23, 18, 24, 25, 26, 5, 27, 36, 37, 38] (by decide +kernel) (by decide +kernel)
set_option maxRecDepth 20000 in
theorem gX4_shuns_X0_apartness : GoodIn wsX4_shuns (wsV RX4 169 RX0 yX0_apartness wsX0_apartness) := goodIn_app (goodIn_of _ (by decide +kernel)) ggX4_shuns_X0_apartness
theorem dX4_shuns_0 : decode cX4_shuns 0 = .ok (.aload_n 0, 1) := by decide +kernel
theorem dX4_shuns_1 : decode cX4_shuns 1 = .ok (.iload_n 1, 1) := by decide +kernel
theorem dX4_shuns_2 : decode cX4_shuns 2 = .ok (.invokevirtual 123, 3) := by decide +kernel
theorem dX4_shuns_5 : decode cX4_shuns 5 = .ok (.astore_n 2, 1) := by decide +kernel
theorem dX4_shuns_6 : decode cX4_shuns 6 = .ok (.aload_n 2, 1) := by decide +kernel
theorem dX4_shuns_7 : decode cX4_shuns 7 = .ok (.ifnonnull 5, 3) := by decide +kernel
theorem dX4_shuns_10 : decode cX4_shuns 10 = .ok (.iconst (-1), 1) := by decide +kernel
theorem dX4_shuns_11 : decode cX4_shuns 11 = .ok (.ireturn, 1) := by decide +kernel
theorem dX4_shuns_12 : decode cX4_shuns 12 = .ok (.iconst 1, 1) := by decide +kernel
theorem dX4_shuns_13 : decode cX4_shuns 13 = .ok (.istore_n 3, 1) := by decide +kernel
theorem dX4_shuns_14 : decode cX4_shuns 14 = .ok (.iload_n 3, 1) := by decide +kernel
theorem dX4_shuns_15 : decode cX4_shuns 15 = .ok (.aload_n 0, 1) := by decide +kernel
theorem dX4_shuns_16 : decode cX4_shuns 16 = .ok (.getfield 18, 3) := by decide +kernel
theorem dX4_shuns_19 : decode cX4_shuns 19 = .ok (.if_icmp .ge 42, 3) := by decide +kernel
theorem dX4_shuns_22 : decode cX4_shuns 22 = .ok (.iconst 0, 1) := by decide +kernel
theorem dX4_shuns_23 : decode cX4_shuns 23 = .ok (.istore 4, 2) := by decide +kernel
theorem dX4_shuns_25 : decode cX4_shuns 25 = .ok (.iload 4, 2) := by decide +kernel
theorem dX4_shuns_27 : decode cX4_shuns 27 = .ok (.iload_n 3, 1) := by decide +kernel
theorem dX4_shuns_28 : decode cX4_shuns 28 = .ok (.if_icmp .ge 27, 3) := by decide +kernel
theorem dX4_shuns_31 : decode cX4_shuns 31 = .ok (.aload_n 2, 1) := by decide +kernel
theorem dX4_shuns_32 : decode cX4_shuns 32 = .ok (.iconst 1, 1) := by decide +kernel
theorem dX4_shuns_33 : decode cX4_shuns 33 = .ok (.iload_n 3, 1) := by decide +kernel
theorem dX4_shuns_34 : decode cX4_shuns 34 = .ok (.ishl, 1) := by decide +kernel
theorem dX4_shuns_35 : decode cX4_shuns 35 = .ok (.iconst 1, 1) := by decide +kernel
theorem dX4_shuns_36 : decode cX4_shuns 36 = .ok (.iload 4, 2) := by decide +kernel
theorem dX4_shuns_38 : decode cX4_shuns 38 = .ok (.ishl, 1) := by decide +kernel
theorem dX4_shuns_39 : decode cX4_shuns 39 = .ok (.invokevirtual 169, 3) := by decide +kernel
theorem dX4_shuns_42 : decode cX4_shuns 42 = .ok (.lconst 0, 1) := by decide +kernel
theorem dX4_shuns_43 : decode cX4_shuns 43 = .ok (.lcmp, 1) := by decide +kernel
theorem dX4_shuns_44 : decode cX4_shuns 44 = .ok (.ifCond .ge 5, 3) := by decide +kernel
theorem dX4_shuns_47 : decode cX4_shuns 47 = .ok (.iconst 0, 1) := by decide +kernel
theorem dX4_shuns_48 : decode cX4_shuns 48 = .ok (.ireturn, 1) := by decide +kernel
theorem dX4_shuns_49 : decode cX4_shuns 49 = .ok (.iinc 4 1, 3) := by decide +kernel
theorem dX4_shuns_52 : decode cX4_shuns 52 = .ok (.goto (-27), 3) := by decide +kernel
theorem dX4_shuns_55 : decode cX4_shuns 55 = .ok (.iinc 3 1, 3) := by decide +kernel
theorem dX4_shuns_58 : decode cX4_shuns 58 = .ok (.goto (-44), 3) := by decide +kernel
theorem dX4_shuns_61 : decode cX4_shuns 61 = .ok (.iconst 1, 1) := by decide +kernel
theorem dX4_shuns_62 : decode cX4_shuns 62 = .ok (.ireturn, 1) := by decide +kernel
set_option maxRecDepth 20000 in
theorem ggX4_rises_X4_lawAt : GoodIn wsX4_rises wsX4_lawAt := goodIn_r _ [6, 7, 8, 9, 10, 5, 11, 12, 13, 14, 28, 29, 30, 31, 32, 33, 34, 35, 36, 37, 38] (by decide +kernel) (by decide +kernel)
set_option maxRecDepth 20000 in
theorem gX4_rises_X4_lawAt : GoodIn wsX4_rises (wsV RX4 123 RX4 yX4_lawAt wsX4_lawAt) := goodIn_app (goodIn_of _ (by decide +kernel)) ggX4_rises_X4_lawAt
set_option maxRecDepth 20000 in
theorem ggX4_rises_X0_sumOfSize : GoodIn wsX4_rises wsX0_sumOfSize := goodIn_r _ [19, 20, 21, 22, 23, 24, 25, 26, 27, 36, 37, 38] (by decide +kernel) (by decide +kernel)
set_option maxRecDepth 20000 in
theorem gX4_rises_X0_sumOfSize : GoodIn wsX4_rises (wsV RX4 159 RX0 yX0_sumOfSize wsX0_sumOfSize) := goodIn_app (goodIn_of _ (by decide +kernel)) ggX4_rises_X0_sumOfSize
theorem dX4_rises_0 : decode cX4_rises 0 = .ok (.aload_n 0, 1) := by decide +kernel
theorem dX4_rises_1 : decode cX4_rises 1 = .ok (.iload_n 1, 1) := by decide +kernel
theorem dX4_rises_2 : decode cX4_rises 2 = .ok (.invokevirtual 123, 3) := by decide +kernel
theorem dX4_rises_5 : decode cX4_rises 5 = .ok (.astore_n 2, 1) := by decide +kernel
theorem dX4_rises_6 : decode cX4_rises 6 = .ok (.aload_n 2, 1) := by decide +kernel
theorem dX4_rises_7 : decode cX4_rises 7 = .ok (.ifnonnull 5, 3) := by decide +kernel
theorem dX4_rises_10 : decode cX4_rises 10 = .ok (.iconst (-1), 1) := by decide +kernel
theorem dX4_rises_11 : decode cX4_rises 11 = .ok (.ireturn, 1) := by decide +kernel
theorem dX4_rises_12 : decode cX4_rises 12 = .ok (.iconst 0, 1) := by decide +kernel
theorem dX4_rises_13 : decode cX4_rises 13 = .ok (.istore_n 3, 1) := by decide +kernel
theorem dX4_rises_14 : decode cX4_rises 14 = .ok (.aload_n 2, 1) := by decide +kernel
theorem dX4_rises_15 : decode cX4_rises 15 = .ok (.iconst 0, 1) := by decide +kernel
theorem dX4_rises_16 : decode cX4_rises 16 = .ok (.invokevirtual 159, 3) := by decide +kernel
theorem dX4_rises_19 : decode cX4_rises 19 = .ok (.lstore 4, 2) := by decide +kernel
theorem dX4_rises_21 : decode cX4_rises 21 = .ok (.iconst 1, 1) := by decide +kernel
theorem dX4_rises_22 : decode cX4_rises 22 = .ok (.istore 6, 2) := by decide +kernel
theorem dX4_rises_24 : decode cX4_rises 24 = .ok (.iload 6, 2) := by decide +kernel
theorem dX4_rises_26 : decode cX4_rises 26 = .ok (.aload_n 0, 1) := by decide +kernel
theorem dX4_rises_27 : decode cX4_rises 27 = .ok (.getfield 18, 3) := by decide +kernel
theorem dX4_rises_30 : decode cX4_rises 30 = .ok (.if_icmp .gt 45, 3) := by decide +kernel
theorem dX4_rises_33 : decode cX4_rises 33 = .ok (.aload_n 2, 1) := by decide +kernel
theorem dX4_rises_34 : decode cX4_rises 34 = .ok (.iload 6, 2) := by decide +kernel
theorem dX4_rises_36 : decode cX4_rises 36 = .ok (.invokevirtual 159, 3) := by decide +kernel
theorem dX4_rises_39 : decode cX4_rises 39 = .ok (.lstore 7, 2) := by decide +kernel
theorem dX4_rises_41 : decode cX4_rises 41 = .ok (.iload_n 3, 1) := by decide +kernel
theorem dX4_rises_42 : decode cX4_rises 42 = .ok (.ifCond .eq 13, 3) := by decide +kernel
theorem dX4_rises_45 : decode cX4_rises 45 = .ok (.lload 7, 2) := by decide +kernel
theorem dX4_rises_47 : decode cX4_rises 47 = .ok (.lload 4, 2) := by decide +kernel
theorem dX4_rises_49 : decode cX4_rises 49 = .ok (.lcmp, 1) := by decide +kernel
theorem dX4_rises_50 : decode cX4_rises 50 = .ok (.ifCond .le 5, 3) := by decide +kernel
theorem dX4_rises_53 : decode cX4_rises 53 = .ok (.iconst 0, 1) := by decide +kernel
theorem dX4_rises_54 : decode cX4_rises 54 = .ok (.ireturn, 1) := by decide +kernel
theorem dX4_rises_55 : decode cX4_rises 55 = .ok (.lload 7, 2) := by decide +kernel
theorem dX4_rises_57 : decode cX4_rises 57 = .ok (.lload 4, 2) := by decide +kernel
theorem dX4_rises_59 : decode cX4_rises 59 = .ok (.lcmp, 1) := by decide +kernel
theorem dX4_rises_60 : decode cX4_rises 60 = .ok (.ifCond .ge 5, 3) := by decide +kernel
theorem dX4_rises_63 : decode cX4_rises 63 = .ok (.iconst 1, 1) := by decide +kernel
theorem dX4_rises_64 : decode cX4_rises 64 = .ok (.istore_n 3, 1) := by decide +kernel
theorem dX4_rises_65 : decode cX4_rises 65 = .ok (.lload 7, 2) := by decide +kernel
theorem dX4_rises_67 : decode cX4_rises 67 = .ok (.lstore 4, 2) := by decide +kernel
theorem dX4_rises_69 : decode cX4_rises 69 = .ok (.iinc 6 1, 3) := by decide +kernel
theorem dX4_rises_72 : decode cX4_rises 72 = .ok (.goto (-48), 3) := by decide +kernel
theorem dX4_rises_75 : decode cX4_rises 75 = .ok (.iconst 1, 1) := by decide +kernel
theorem dX4_rises_76 : decode cX4_rises 76 = .ok (.ireturn, 1) := by decide +kernel
set_option maxRecDepth 20000 in
theorem ggX4_greatest_X4_lawAt : GoodIn wsX4_greatest wsX4_lawAt := goodIn_r _ [7, 8, 9, 10, 11, 6, 12, 13, 14, 15, 16, 17, 18, 19, 20, 21, 22, 23, 24, 25, 26] (by decide +kernel) (by decide +kernel)
set_option maxRecDepth 20000 in
theorem gX4_greatest_X4_lawAt : GoodIn wsX4_greatest (wsV RX4 123 RX4 yX4_lawAt wsX4_lawAt) := goodIn_app (goodIn_of _ (by decide +kernel)) ggX4_greatest_X4_lawAt
theorem dX4_greatest_0 : decode cX4_greatest 0 = .ok (.aload_n 0, 1) := by decide +kernel
theorem dX4_greatest_1 : decode cX4_greatest 1 = .ok (.iload_n 1, 1) := by decide +kernel
theorem dX4_greatest_2 : decode cX4_greatest 2 = .ok (.invokevirtual 123, 3) := by decide +kernel
theorem dX4_greatest_5 : decode cX4_greatest 5 = .ok (.astore_n 2, 1) := by decide +kernel
theorem dX4_greatest_6 : decode cX4_greatest 6 = .ok (.aload_n 2, 1) := by decide +kernel
theorem dX4_greatest_7 : decode cX4_greatest 7 = .ok (.ifnonnull 5, 3) := by decide +kernel
theorem dX4_greatest_10 : decode cX4_greatest 10 = .ok (.iconst (-1), 1) := by decide +kernel
theorem dX4_greatest_11 : decode cX4_greatest 11 = .ok (.ireturn, 1) := by decide +kernel
theorem dX4_greatest_12 : decode cX4_greatest 12 = .ok (.iconst 0, 1) := by decide +kernel
theorem dX4_greatest_13 : decode cX4_greatest 13 = .ok (.istore_n 3, 1) := by decide +kernel
theorem dX4_greatest_14 : decode cX4_greatest 14 = .ok (.iconst 1, 1) := by decide +kernel
theorem dX4_greatest_15 : decode cX4_greatest 15 = .ok (.istore 4, 2) := by decide +kernel
theorem dX4_greatest_17 : decode cX4_greatest 17 = .ok (.iload 4, 2) := by decide +kernel
theorem dX4_greatest_19 : decode cX4_greatest 19 = .ok (.aload_n 0, 1) := by decide +kernel
theorem dX4_greatest_20 : decode cX4_greatest 20 = .ok (.getfield 22, 3) := by decide +kernel
theorem dX4_greatest_23 : decode cX4_greatest 23 = .ok (.if_icmp .ge 29, 3) := by decide +kernel
theorem dX4_greatest_26 : decode cX4_greatest 26 = .ok (.aload_n 2, 1) := by decide +kernel
theorem dX4_greatest_27 : decode cX4_greatest 27 = .ok (.getfield 130, 3) := by decide +kernel
theorem dX4_greatest_30 : decode cX4_greatest 30 = .ok (.iload 4, 2) := by decide +kernel
theorem dX4_greatest_32 : decode cX4_greatest 32 = .ok (.laload, 1) := by decide +kernel
theorem dX4_greatest_33 : decode cX4_greatest 33 = .ok (.aload_n 2, 1) := by decide +kernel
theorem dX4_greatest_34 : decode cX4_greatest 34 = .ok (.getfield 130, 3) := by decide +kernel
theorem dX4_greatest_37 : decode cX4_greatest 37 = .ok (.iload_n 3, 1) := by decide +kernel
theorem dX4_greatest_38 : decode cX4_greatest 38 = .ok (.laload, 1) := by decide +kernel
theorem dX4_greatest_39 : decode cX4_greatest 39 = .ok (.lcmp, 1) := by decide +kernel
theorem dX4_greatest_40 : decode cX4_greatest 40 = .ok (.ifCond .le 6, 3) := by decide +kernel
theorem dX4_greatest_43 : decode cX4_greatest 43 = .ok (.iload 4, 2) := by decide +kernel
theorem dX4_greatest_45 : decode cX4_greatest 45 = .ok (.istore_n 3, 1) := by decide +kernel
theorem dX4_greatest_46 : decode cX4_greatest 46 = .ok (.iinc 4 1, 3) := by decide +kernel
theorem dX4_greatest_49 : decode cX4_greatest 49 = .ok (.goto (-32), 3) := by decide +kernel
theorem dX4_greatest_52 : decode cX4_greatest 52 = .ok (.iload_n 3, 1) := by decide +kernel
theorem dX4_greatest_53 : decode cX4_greatest 53 = .ok (.ireturn, 1) := by decide +kernel
set_option maxRecDepth 20000 in
theorem ggX4_greedy_X4_lawAt : GoodIn wsX4_greedy wsX4_lawAt := goodIn_r _ [5, 6, 7, 8, 9, 4, 10, 11, 12, 13, 24, 25, 26, 27, 28, 29, 30, 31, 32, 33, 34] (by decide +kernel) (by decide +kernel)
set_option maxRecDepth 20000 in
theorem gX4_greedy_X4_lawAt : GoodIn wsX4_greedy (wsV RX4 123 RX4 yX4_lawAt wsX4_lawAt) := goodIn_app (goodIn_of _ (by decide +kernel)) ggX4_greedy_X4_lawAt
set_option maxRecDepth 20000 in
theorem ggX4_greedy_X4_isCount : GoodIn wsX4_greedy wsX4_isCount := goodIn_r _ [17, 18, 11, 12, 4, 13, 24, 25, 26, 27, 28, 29, 30, 31] (by decide +kernel) (by decide +kernel)
set_option maxRecDepth 20000 in
theorem gX4_greedy_X4_isCount : GoodIn wsX4_greedy (wsV RX4 156 RX4 yX4_isCount wsX4_isCount) := goodIn_app (goodIn_of _ (by decide +kernel)) ggX4_greedy_X4_isCount
set_option maxRecDepth 20000 in
theorem ggX4_greedy_X4_withBestThing : GoodIn wsX4_greedy wsX4_withBestThing := goodIn_r _ [22, 18, 23, 24, 25, 26, 27, 28, 29, 30, 31, 32, 33, 34] (by decide +kernel) (by decide +kernel)
set_option maxRecDepth 20000 in
theorem gX4_greedy_X4_withBestThing : GoodIn wsX4_greedy (wsV RX4 172 RX4 yX4_withBestThing wsX4_withBestThing) := goodIn_app (goodIn_of _ (by decide +kernel)) ggX4_greedy_X4_withBestThing
theorem dX4_greedy_0 : decode cX4_greedy 0 = .ok (.aload_n 0, 1) := by decide +kernel
theorem dX4_greedy_1 : decode cX4_greedy 1 = .ok (.iload_n 1, 1) := by decide +kernel
theorem dX4_greedy_2 : decode cX4_greedy 2 = .ok (.invokevirtual 123, 3) := by decide +kernel
theorem dX4_greedy_5 : decode cX4_greedy 5 = .ok (.astore_n 3, 1) := by decide +kernel
theorem dX4_greedy_6 : decode cX4_greedy 6 = .ok (.aload_n 3, 1) := by decide +kernel
theorem dX4_greedy_7 : decode cX4_greedy 7 = .ok (.ifnull 11, 3) := by decide +kernel
theorem dX4_greedy_10 : decode cX4_greedy 10 = .ok (.aload_n 0, 1) := by decide +kernel
theorem dX4_greedy_11 : decode cX4_greedy 11 = .ok (.iload_n 2, 1) := by decide +kernel
theorem dX4_greedy_12 : decode cX4_greedy 12 = .ok (.invokevirtual 156, 3) := by decide +kernel
theorem dX4_greedy_15 : decode cX4_greedy 15 = .ok (.ifCond .ne 5, 3) := by decide +kernel
theorem dX4_greedy_18 : decode cX4_greedy 18 = .ok (.iconst (-1), 1) := by decide +kernel
theorem dX4_greedy_19 : decode cX4_greedy 19 = .ok (.ireturn, 1) := by decide +kernel
theorem dX4_greedy_20 : decode cX4_greedy 20 = .ok (.iconst 0, 1) := by decide +kernel
theorem dX4_greedy_21 : decode cX4_greedy 21 = .ok (.istore 4, 2) := by decide +kernel
theorem dX4_greedy_23 : decode cX4_greedy 23 = .ok (.iconst 0, 1) := by decide +kernel
theorem dX4_greedy_24 : decode cX4_greedy 24 = .ok (.istore 5, 2) := by decide +kernel
theorem dX4_greedy_26 : decode cX4_greedy 26 = .ok (.iload 5, 2) := by decide +kernel
theorem dX4_greedy_28 : decode cX4_greedy 28 = .ok (.iload_n 2, 1) := by decide +kernel
theorem dX4_greedy_29 : decode cX4_greedy 29 = .ok (.if_icmp .ge 18, 3) := by decide +kernel
theorem dX4_greedy_32 : decode cX4_greedy 32 = .ok (.aload_n 0, 1) := by decide +kernel
theorem dX4_greedy_33 : decode cX4_greedy 33 = .ok (.aload_n 3, 1) := by decide +kernel
theorem dX4_greedy_34 : decode cX4_greedy 34 = .ok (.iload 4, 2) := by decide +kernel
theorem dX4_greedy_36 : decode cX4_greedy 36 = .ok (.invokevirtual 172, 3) := by decide +kernel
theorem dX4_greedy_39 : decode cX4_greedy 39 = .ok (.istore 4, 2) := by decide +kernel
theorem dX4_greedy_41 : decode cX4_greedy 41 = .ok (.iinc 5 1, 3) := by decide +kernel
theorem dX4_greedy_44 : decode cX4_greedy 44 = .ok (.goto (-18), 3) := by decide +kernel
theorem dX4_greedy_47 : decode cX4_greedy 47 = .ok (.iload 4, 2) := by decide +kernel
theorem dX4_greedy_49 : decode cX4_greedy 49 = .ok (.ireturn, 1) := by decide +kernel
set_option maxRecDepth 20000 in
theorem ggX4_same_X4_lawAt : GoodIn wsX4_same wsX4_lawAt := goodIn_r _ [7, 8, 9, 10, 11, 6, 12, 13, 14, 15, 16, 17, 18, 19, 20, 21, 22, 23, 24, 25, 26] (by decide +kernel) (by decide +kernel)
set_option maxRecDepth 20000 in
theorem gX4_same_X4_lawAt : GoodIn wsX4_same (wsV RX4 123 RX4 yX4_lawAt wsX4_lawAt) := goodIn_app (goodIn_of _ (by decide +kernel)) ggX4_same_X4_lawAt
theorem dX4_same_0 : decode cX4_same 0 = .ok (.aload_n 0, 1) := by decide +kernel
theorem dX4_same_1 : decode cX4_same 1 = .ok (.iload_n 1, 1) := by decide +kernel
theorem dX4_same_2 : decode cX4_same 2 = .ok (.invokevirtual 123, 3) := by decide +kernel
theorem dX4_same_5 : decode cX4_same 5 = .ok (.astore_n 3, 1) := by decide +kernel
theorem dX4_same_6 : decode cX4_same 6 = .ok (.aload_n 0, 1) := by decide +kernel
theorem dX4_same_7 : decode cX4_same 7 = .ok (.iload_n 2, 1) := by decide +kernel
theorem dX4_same_8 : decode cX4_same 8 = .ok (.invokevirtual 123, 3) := by decide +kernel
theorem dX4_same_11 : decode cX4_same 11 = .ok (.astore 4, 2) := by decide +kernel
theorem dX4_same_13 : decode cX4_same 13 = .ok (.aload_n 3, 1) := by decide +kernel
theorem dX4_same_14 : decode cX4_same 14 = .ok (.ifnull 8, 3) := by decide +kernel
theorem dX4_same_17 : decode cX4_same 17 = .ok (.aload 4, 2) := by decide +kernel
theorem dX4_same_19 : decode cX4_same 19 = .ok (.ifnonnull 5, 3) := by decide +kernel
theorem dX4_same_22 : decode cX4_same 22 = .ok (.iconst (-1), 1) := by decide +kernel
theorem dX4_same_23 : decode cX4_same 23 = .ok (.ireturn, 1) := by decide +kernel
theorem dX4_same_24 : decode cX4_same 24 = .ok (.iconst 0, 1) := by decide +kernel
theorem dX4_same_25 : decode cX4_same 25 = .ok (.istore 5, 2) := by decide +kernel
theorem dX4_same_27 : decode cX4_same 27 = .ok (.iload 5, 2) := by decide +kernel
theorem dX4_same_29 : decode cX4_same 29 = .ok (.aload_n 0, 1) := by decide +kernel
theorem dX4_same_30 : decode cX4_same 30 = .ok (.getfield 22, 3) := by decide +kernel
theorem dX4_same_33 : decode cX4_same 33 = .ok (.if_icmp .ge 30, 3) := by decide +kernel
theorem dX4_same_36 : decode cX4_same 36 = .ok (.aload_n 3, 1) := by decide +kernel
theorem dX4_same_37 : decode cX4_same 37 = .ok (.getfield 130, 3) := by decide +kernel
theorem dX4_same_40 : decode cX4_same 40 = .ok (.iload 5, 2) := by decide +kernel
theorem dX4_same_42 : decode cX4_same 42 = .ok (.laload, 1) := by decide +kernel
theorem dX4_same_43 : decode cX4_same 43 = .ok (.aload 4, 2) := by decide +kernel
theorem dX4_same_45 : decode cX4_same 45 = .ok (.getfield 130, 3) := by decide +kernel
theorem dX4_same_48 : decode cX4_same 48 = .ok (.iload 5, 2) := by decide +kernel
theorem dX4_same_50 : decode cX4_same 50 = .ok (.laload, 1) := by decide +kernel
theorem dX4_same_51 : decode cX4_same 51 = .ok (.lcmp, 1) := by decide +kernel
theorem dX4_same_52 : decode cX4_same 52 = .ok (.ifCond .eq 5, 3) := by decide +kernel
theorem dX4_same_55 : decode cX4_same 55 = .ok (.iconst 0, 1) := by decide +kernel
theorem dX4_same_56 : decode cX4_same 56 = .ok (.ireturn, 1) := by decide +kernel
theorem dX4_same_57 : decode cX4_same 57 = .ok (.iinc 5 1, 3) := by decide +kernel
theorem dX4_same_60 : decode cX4_same 60 = .ok (.goto (-33), 3) := by decide +kernel
theorem dX4_same_63 : decode cX4_same 63 = .ok (.iconst 1, 1) := by decide +kernel
theorem dX4_same_64 : decode cX4_same 64 = .ok (.ireturn, 1) := by decide +kernel
set_option maxRecDepth 20000 in
theorem ggX4_draw_X4_lawAt : GoodIn wsX4_draw wsX4_lawAt := goodIn_r _ [8, 9, 10, 11, 12, 7, 13, 14, 15, 16, 25, 26, 27, 28, 29, 30, 31, 32, 33, 34, 35] (by decide +kernel) (by decide +kernel)
set_option maxRecDepth 20000 in
theorem gX4_draw_X4_lawAt : GoodIn wsX4_draw (wsV RX4 123 RX4 yX4_lawAt wsX4_lawAt) := goodIn_app (goodIn_of _ (by decide +kernel)) ggX4_draw_X4_lawAt
set_option maxRecDepth 20000 in
theorem ggX4_draw_X0_sumFitting : GoodIn wsX4_draw wsX0_sumFitting := goodIn_r _ [21, 22, 23, 7, 24, 33, 34, 35] (by decide +kernel) (by decide +kernel)
set_option maxRecDepth 20000 in
theorem gX4_draw_X0_sumFitting : GoodIn wsX4_draw (wsV RX4 152 RX0 yX0_sumFitting wsX0_sumFitting) := goodIn_app (goodIn_of _ (by decide +kernel)) ggX4_draw_X0_sumFitting
theorem dX4_draw_0 : decode cX4_draw 0 = .ok (.aload_n 0, 1) := by decide +kernel
theorem dX4_draw_1 : decode cX4_draw 1 = .ok (.iload_n 1, 1) := by decide +kernel
theorem dX4_draw_2 : decode cX4_draw 2 = .ok (.invokevirtual 123, 3) := by decide +kernel
theorem dX4_draw_5 : decode cX4_draw 5 = .ok (.astore 4, 2) := by decide +kernel
theorem dX4_draw_7 : decode cX4_draw 7 = .ok (.aload 4, 2) := by decide +kernel
theorem dX4_draw_9 : decode cX4_draw 9 = .ok (.ifnonnull 5, 3) := by decide +kernel
theorem dX4_draw_12 : decode cX4_draw 12 = .ok (.iconst (-1), 1) := by decide +kernel
theorem dX4_draw_13 : decode cX4_draw 13 = .ok (.ireturn, 1) := by decide +kernel
theorem dX4_draw_14 : decode cX4_draw 14 = .ok (.lload_n 2, 1) := by decide +kernel
theorem dX4_draw_15 : decode cX4_draw 15 = .ok (.lstore 5, 2) := by decide +kernel
theorem dX4_draw_17 : decode cX4_draw 17 = .ok (.iconst 0, 1) := by decide +kernel
theorem dX4_draw_18 : decode cX4_draw 18 = .ok (.istore 7, 2) := by decide +kernel
theorem dX4_draw_20 : decode cX4_draw 20 = .ok (.iconst 0, 1) := by decide +kernel
theorem dX4_draw_21 : decode cX4_draw 21 = .ok (.istore 8, 2) := by decide +kernel
theorem dX4_draw_23 : decode cX4_draw 23 = .ok (.iload 8, 2) := by decide +kernel
theorem dX4_draw_25 : decode cX4_draw 25 = .ok (.aload_n 0, 1) := by decide +kernel
theorem dX4_draw_26 : decode cX4_draw 26 = .ok (.getfield 18, 3) := by decide +kernel
theorem dX4_draw_29 : decode cX4_draw 29 = .ok (.if_icmp .ge 91, 3) := by decide +kernel
theorem dX4_draw_32 : decode cX4_draw 32 = .ok (.iconst 1, 1) := by decide +kernel
theorem dX4_draw_33 : decode cX4_draw 33 = .ok (.iload 8, 2) := by decide +kernel
theorem dX4_draw_35 : decode cX4_draw 35 = .ok (.ishl, 1) := by decide +kernel
theorem dX4_draw_36 : decode cX4_draw 36 = .ok (.istore 9, 2) := by decide +kernel
theorem dX4_draw_38 : decode cX4_draw 38 = .ok (.iload 9, 2) := by decide +kernel
theorem dX4_draw_40 : decode cX4_draw 40 = .ok (.iconst 1, 1) := by decide +kernel
theorem dX4_draw_41 : decode cX4_draw 41 = .ok (.isub, 1) := by decide +kernel
theorem dX4_draw_42 : decode cX4_draw 42 = .ok (.iload 7, 2) := by decide +kernel
theorem dX4_draw_44 : decode cX4_draw 44 = .ok (.iconst (-1), 1) := by decide +kernel
theorem dX4_draw_45 : decode cX4_draw 45 = .ok (.ixor, 1) := by decide +kernel
theorem dX4_draw_46 : decode cX4_draw 46 = .ok (.iand, 1) := by decide +kernel
theorem dX4_draw_47 : decode cX4_draw 47 = .ok (.istore 10, 2) := by decide +kernel
theorem dX4_draw_49 : decode cX4_draw 49 = .ok (.aload 4, 2) := by decide +kernel
theorem dX4_draw_51 : decode cX4_draw 51 = .ok (.iload 7, 2) := by decide +kernel
theorem dX4_draw_53 : decode cX4_draw 53 = .ok (.iload 10, 2) := by decide +kernel
theorem dX4_draw_55 : decode cX4_draw 55 = .ok (.invokevirtual 152, 3) := by decide +kernel
theorem dX4_draw_58 : decode cX4_draw 58 = .ok (.lstore 11, 2) := by decide +kernel
theorem dX4_draw_60 : decode cX4_draw 60 = .ok (.aload 4, 2) := by decide +kernel
theorem dX4_draw_62 : decode cX4_draw 62 = .ok (.iload 7, 2) := by decide +kernel
theorem dX4_draw_64 : decode cX4_draw 64 = .ok (.iload 9, 2) := by decide +kernel
theorem dX4_draw_66 : decode cX4_draw 66 = .ok (.ior, 1) := by decide +kernel
theorem dX4_draw_67 : decode cX4_draw 67 = .ok (.iload 10, 2) := by decide +kernel
theorem dX4_draw_69 : decode cX4_draw 69 = .ok (.invokevirtual 152, 3) := by decide +kernel
theorem dX4_draw_72 : decode cX4_draw 72 = .ok (.lstore 13, 2) := by decide +kernel
theorem dX4_draw_74 : decode cX4_draw 74 = .ok (.lload 5, 2) := by decide +kernel
theorem dX4_draw_76 : decode cX4_draw 76 = .ok (.ldc2_w 176, 3) := by decide +kernel
theorem dX4_draw_79 : decode cX4_draw 79 = .ok (.lmul, 1) := by decide +kernel
theorem dX4_draw_80 : decode cX4_draw 80 = .ok (.ldc2_w 178, 3) := by decide +kernel
theorem dX4_draw_83 : decode cX4_draw 83 = .ok (.ladd, 1) := by decide +kernel
theorem dX4_draw_84 : decode cX4_draw 84 = .ok (.lstore 5, 2) := by decide +kernel
theorem dX4_draw_86 : decode cX4_draw 86 = .ok (.lload 11, 2) := by decide +kernel
theorem dX4_draw_88 : decode cX4_draw 88 = .ok (.lconst 0, 1) := by decide +kernel
theorem dX4_draw_89 : decode cX4_draw 89 = .ok (.lcmp, 1) := by decide +kernel
theorem dX4_draw_90 : decode cX4_draw 90 = .ok (.ifCond .le 24, 3) := by decide +kernel
theorem dX4_draw_93 : decode cX4_draw 93 = .ok (.lload 5, 2) := by decide +kernel
theorem dX4_draw_95 : decode cX4_draw 95 = .ok (.bipush 33, 2) := by decide +kernel
theorem dX4_draw_97 : decode cX4_draw 97 = .ok (.lushr, 1) := by decide +kernel
theorem dX4_draw_98 : decode cX4_draw 98 = .ok (.lload 11, 2) := by decide +kernel
theorem dX4_draw_100 : decode cX4_draw 100 = .ok (.lrem, 1) := by decide +kernel
theorem dX4_draw_101 : decode cX4_draw 101 = .ok (.lload 13, 2) := by decide +kernel
theorem dX4_draw_103 : decode cX4_draw 103 = .ok (.lcmp, 1) := by decide +kernel
theorem dX4_draw_104 : decode cX4_draw 104 = .ok (.ifCond .ge 10, 3) := by decide +kernel
theorem dX4_draw_107 : decode cX4_draw 107 = .ok (.iload 7, 2) := by decide +kernel
theorem dX4_draw_109 : decode cX4_draw 109 = .ok (.iload 9, 2) := by decide +kernel
theorem dX4_draw_111 : decode cX4_draw 111 = .ok (.ior, 1) := by decide +kernel
theorem dX4_draw_112 : decode cX4_draw 112 = .ok (.istore 7, 2) := by decide +kernel
theorem dX4_draw_114 : decode cX4_draw 114 = .ok (.iinc 8 1, 3) := by decide +kernel
theorem dX4_draw_117 : decode cX4_draw 117 = .ok (.goto (-94), 3) := by decide +kernel
theorem dX4_draw_120 : decode cX4_draw 120 = .ok (.iload 7, 2) := by decide +kernel
theorem dX4_draw_122 : decode cX4_draw 122 = .ok (.ireturn, 1) := by decide +kernel
theorem dX4_isAmong_0 : decode cX4_isAmong 0 = .ok (.iload_n 0, 1) := by decide +kernel
theorem dX4_isAmong_1 : decode cX4_isAmong 1 = .ok (.iload_n 1, 1) := by decide +kernel
theorem dX4_isAmong_2 : decode cX4_isAmong 2 = .ok (.if_icmp .lt 12, 3) := by decide +kernel
theorem dX4_isAmong_5 : decode cX4_isAmong 5 = .ok (.iload_n 0, 1) := by decide +kernel
theorem dX4_isAmong_6 : decode cX4_isAmong 6 = .ok (.iload_n 2, 1) := by decide +kernel
theorem dX4_isAmong_7 : decode cX4_isAmong 7 = .ok (.if_icmp .gt 7, 3) := by decide +kernel
theorem dX4_isAmong_10 : decode cX4_isAmong 10 = .ok (.iconst 1, 1) := by decide +kernel
theorem dX4_isAmong_11 : decode cX4_isAmong 11 = .ok (.goto 4, 3) := by decide +kernel
theorem dX4_isAmong_14 : decode cX4_isAmong 14 = .ok (.iconst 0, 1) := by decide +kernel
theorem dX4_isAmong_15 : decode cX4_isAmong 15 = .ok (.ireturn, 1) := by decide +kernel
set_option maxRecDepth 20000 in
theorem ggX4_isPlace_X4_isAmong : GoodIn wsX4_isPlace wsX4_isAmong := goodIn_r _ [4] (by decide +kernel) (by decide +kernel)
set_option maxRecDepth 20000 in
theorem gX4_isPlace_X4_isAmong : GoodIn wsX4_isPlace (va_wsS RX4 69 yX4_isAmong wsX4_isAmong) := goodIn_app (goodIn_of _ (by decide +kernel)) ggX4_isPlace_X4_isAmong
theorem dX4_isPlace_0 : decode cX4_isPlace 0 = .ok (.iload_n 0, 1) := by decide +kernel
theorem dX4_isPlace_1 : decode cX4_isPlace 1 = .ok (.iconst 0, 1) := by decide +kernel
theorem dX4_isPlace_2 : decode cX4_isPlace 2 = .ok (.iconst 5, 1) := by decide +kernel
theorem dX4_isPlace_3 : decode cX4_isPlace 3 = .ok (.invokestatic 69, 3) := by decide +kernel
theorem dX4_isPlace_6 : decode cX4_isPlace 6 = .ok (.ireturn, 1) := by decide +kernel
set_option maxRecDepth 20000 in
theorem ggX4_isPost_X4_isAmong : GoodIn wsX4_isPost wsX4_isAmong := goodIn_r _ [4] (by decide +kernel) (by decide +kernel)
set_option maxRecDepth 20000 in
theorem gX4_isPost_X4_isAmong : GoodIn wsX4_isPost (va_wsS RX4 69 yX4_isAmong wsX4_isAmong) := goodIn_app (goodIn_of _ (by decide +kernel)) ggX4_isPost_X4_isAmong
theorem dX4_isPost_0 : decode cX4_isPost 0 = .ok (.iload_n 0, 1) := by decide +kernel
theorem dX4_isPost_1 : decode cX4_isPost 1 = .ok (.iconst 0, 1) := by decide +kernel
theorem dX4_isPost_2 : decode cX4_isPost 2 = .ok (.iconst 4, 1) := by decide +kernel
theorem dX4_isPost_3 : decode cX4_isPost 3 = .ok (.invokestatic 69, 3) := by decide +kernel
theorem dX4_isPost_6 : decode cX4_isPost 6 = .ok (.ireturn, 1) := by decide +kernel
set_option maxRecDepth 20000 in
theorem ggX4_isPosts_X4_isAmong : GoodIn wsX4_isPosts wsX4_isAmong := goodIn_r _ [4] (by decide +kernel) (by decide +kernel)
set_option maxRecDepth 20000 in
theorem gX4_isPosts_X4_isAmong : GoodIn wsX4_isPosts (va_wsS RX4 69 yX4_isAmong wsX4_isAmong) := goodIn_app (goodIn_of _ (by decide +kernel)) ggX4_isPosts_X4_isAmong
theorem dX4_isPosts_0 : decode cX4_isPosts 0 = .ok (.iload_n 0, 1) := by decide +kernel
theorem dX4_isPosts_1 : decode cX4_isPosts 1 = .ok (.iconst 2, 1) := by decide +kernel
theorem dX4_isPosts_2 : decode cX4_isPosts 2 = .ok (.iconst 5, 1) := by decide +kernel
theorem dX4_isPosts_3 : decode cX4_isPosts 3 = .ok (.invokestatic 69, 3) := by decide +kernel
theorem dX4_isPosts_6 : decode cX4_isPosts 6 = .ok (.ireturn, 1) := by decide +kernel
set_option maxRecDepth 20000 in
theorem ggX4_isWhat_X4_isAmong : GoodIn wsX4_isWhat wsX4_isAmong := goodIn_r _ [4] (by decide +kernel) (by decide +kernel)
set_option maxRecDepth 20000 in
theorem gX4_isWhat_X4_isAmong : GoodIn wsX4_isWhat (va_wsS RX4 69 yX4_isAmong wsX4_isAmong) := goodIn_app (goodIn_of _ (by decide +kernel)) ggX4_isWhat_X4_isAmong
theorem dX4_isWhat_0 : decode cX4_isWhat 0 = .ok (.iload_n 0, 1) := by decide +kernel
theorem dX4_isWhat_1 : decode cX4_isWhat 1 = .ok (.iconst 0, 1) := by decide +kernel
theorem dX4_isWhat_2 : decode cX4_isWhat 2 = .ok (.iconst 1, 1) := by decide +kernel
theorem dX4_isWhat_3 : decode cX4_isWhat 3 = .ok (.invokestatic 69, 3) := by decide +kernel
theorem dX4_isWhat_6 : decode cX4_isWhat 6 = .ok (.ireturn, 1) := by decide +kernel
set_option maxRecDepth 20000 in
theorem ggX4_isThing_X4_isAmong : GoodIn wsX4_isThing wsX4_isAmong := goodIn_r _ [5] (by decide +kernel) (by decide +kernel)
set_option maxRecDepth 20000 in
theorem gX4_isThing_X4_isAmong : GoodIn wsX4_isThing (va_wsS RX4 69 yX4_isAmong wsX4_isAmong) := goodIn_app (goodIn_of _ (by decide +kernel)) ggX4_isThing_X4_isAmong
theorem dX4_isThing_0 : decode cX4_isThing 0 = .ok (.iload_n 1, 1) := by decide +kernel
theorem dX4_isThing_1 : decode cX4_isThing 1 = .ok (.iconst 0, 1) := by decide +kernel
theorem dX4_isThing_2 : decode cX4_isThing 2 = .ok (.aload_n 0, 1) := by decide +kernel
theorem dX4_isThing_3 : decode cX4_isThing 3 = .ok (.getfield 18, 3) := by decide +kernel
theorem dX4_isThing_6 : decode cX4_isThing 6 = .ok (.iconst 1, 1) := by decide +kernel
theorem dX4_isThing_7 : decode cX4_isThing 7 = .ok (.isub, 1) := by decide +kernel
theorem dX4_isThing_8 : decode cX4_isThing 8 = .ok (.invokestatic 69, 3) := by decide +kernel
theorem dX4_isThing_11 : decode cX4_isThing 11 = .ok (.ireturn, 1) := by decide +kernel
set_option maxRecDepth 20000 in
theorem ggX4_isCount_X4_isAmong : GoodIn wsX4_isCount wsX4_isAmong := goodIn_r _ [5] (by decide +kernel) (by decide +kernel)
set_option maxRecDepth 20000 in
theorem gX4_isCount_X4_isAmong : GoodIn wsX4_isCount (va_wsS RX4 69 yX4_isAmong wsX4_isAmong) := goodIn_app (goodIn_of _ (by decide +kernel)) ggX4_isCount_X4_isAmong
theorem dX4_isCount_0 : decode cX4_isCount 0 = .ok (.iload_n 1, 1) := by decide +kernel
theorem dX4_isCount_1 : decode cX4_isCount 1 = .ok (.iconst 0, 1) := by decide +kernel
theorem dX4_isCount_2 : decode cX4_isCount 2 = .ok (.aload_n 0, 1) := by decide +kernel
theorem dX4_isCount_3 : decode cX4_isCount 3 = .ok (.getfield 18, 3) := by decide +kernel
theorem dX4_isCount_6 : decode cX4_isCount 6 = .ok (.invokestatic 69, 3) := by decide +kernel
theorem dX4_isCount_9 : decode cX4_isCount 9 = .ok (.ireturn, 1) := by decide +kernel
set_option maxRecDepth 20000 in
theorem ggX4_isSet_X4_isAmong : GoodIn wsX4_isSet wsX4_isAmong := goodIn_r _ [5] (by decide +kernel) (by decide +kernel)
set_option maxRecDepth 20000 in
theorem gX4_isSet_X4_isAmong : GoodIn wsX4_isSet (va_wsS RX4 69 yX4_isAmong wsX4_isAmong) := goodIn_app (goodIn_of _ (by decide +kernel)) ggX4_isSet_X4_isAmong
theorem dX4_isSet_0 : decode cX4_isSet 0 = .ok (.iload_n 1, 1) := by decide +kernel
theorem dX4_isSet_1 : decode cX4_isSet 1 = .ok (.iconst 0, 1) := by decide +kernel
theorem dX4_isSet_2 : decode cX4_isSet 2 = .ok (.aload_n 0, 1) := by decide +kernel
theorem dX4_isSet_3 : decode cX4_isSet 3 = .ok (.getfield 22, 3) := by decide +kernel
theorem dX4_isSet_6 : decode cX4_isSet 6 = .ok (.iconst 1, 1) := by decide +kernel
theorem dX4_isSet_7 : decode cX4_isSet 7 = .ok (.isub, 1) := by decide +kernel
theorem dX4_isSet_8 : decode cX4_isSet 8 = .ok (.invokestatic 69, 3) := by decide +kernel
theorem dX4_isSet_11 : decode cX4_isSet 11 = .ok (.ireturn, 1) := by decide +kernel
set_option maxRecDepth 20000 in
theorem ggX4_lawAt_X4_isPlace : GoodIn wsX4_lawAt wsX4_isPlace := goodIn_r _ [6, 7, 8, 5, 9] (by decide +kernel) (by decide +kernel)
set_option maxRecDepth 20000 in
theorem gX4_lawAt_X4_isPlace : GoodIn wsX4_lawAt (va_wsS RX4 62 yX4_isPlace wsX4_isPlace) := goodIn_app (goodIn_of _ (by decide +kernel)) ggX4_lawAt_X4_isPlace
theorem dX4_lawAt_0 : decode cX4_lawAt 0 = .ok (.iload_n 1, 1) := by decide +kernel
theorem dX4_lawAt_1 : decode cX4_lawAt 1 = .ok (.invokestatic 62, 3) := by decide +kernel
theorem dX4_lawAt_4 : decode cX4_lawAt 4 = .ok (.ifCond .eq 15, 3) := by decide +kernel
theorem dX4_lawAt_7 : decode cX4_lawAt 7 = .ok (.aload_n 0, 1) := by decide +kernel
theorem dX4_lawAt_8 : decode cX4_lawAt 8 = .ok (.getfield 33, 3) := by decide +kernel
theorem dX4_lawAt_11 : decode cX4_lawAt 11 = .ok (.iload_n 1, 1) := by decide +kernel
theorem dX4_lawAt_12 : decode cX4_lawAt 12 = .ok (.aaload, 1) := by decide +kernel
theorem dX4_lawAt_13 : decode cX4_lawAt 13 = .ok (.getfield 180, 3) := by decide +kernel
theorem dX4_lawAt_16 : decode cX4_lawAt 16 = .ok (.ifCond .ne 5, 3) := by decide +kernel
theorem dX4_lawAt_19 : decode cX4_lawAt 19 = .ok (.aconst_null, 1) := by decide +kernel
theorem dX4_lawAt_20 : decode cX4_lawAt 20 = .ok (.areturn, 1) := by decide +kernel
theorem dX4_lawAt_21 : decode cX4_lawAt 21 = .ok (.aload_n 0, 1) := by decide +kernel
theorem dX4_lawAt_22 : decode cX4_lawAt 22 = .ok (.getfield 33, 3) := by decide +kernel
theorem dX4_lawAt_25 : decode cX4_lawAt 25 = .ok (.iload_n 1, 1) := by decide +kernel
theorem dX4_lawAt_26 : decode cX4_lawAt 26 = .ok (.aaload, 1) := by decide +kernel
theorem dX4_lawAt_27 : decode cX4_lawAt 27 = .ok (.areturn, 1) := by decide +kernel
set_option maxRecDepth 20000 in
theorem ggX4_draftWorths_X3_worthOf : GoodIn wsX4_draftWorths wsX3_worthOf := goodIn_r _ [8, 9, 10, 11, 12, 13, 14, 15, 16, 17, 18, 19, 20, 21, 22, 23, 24, 25, 26, 27, 28, 29, 30, 31, 32, 33, 34, 35, 36, 7, 37, 38, 39, 40, 41, 42, 43, 44, 45, 46, 47, 48, 49, 50, 51, 52, 53, 54, 55, 56, 57, 58, 67, 68, 69, 70, 71] (by decide +kernel) (by decide +kernel)
set_option maxRecDepth 20000 in
theorem gX4_draftWorths_X3_worthOf : GoodIn wsX4_draftWorths (wsV RX4 83 RX3 yX3_worthOf wsX3_worthOf) := goodIn_app (goodIn_of _ (by decide +kernel)) ggX4_draftWorths_X3_worthOf
theorem dX4_draftWorths_0 : decode cX4_draftWorths 0 = .ok (.iconst 0, 1) := by decide +kernel
theorem dX4_draftWorths_1 : decode cX4_draftWorths 1 = .ok (.istore_n 2, 1) := by decide +kernel
theorem dX4_draftWorths_2 : decode cX4_draftWorths 2 = .ok (.iload_n 2, 1) := by decide +kernel
theorem dX4_draftWorths_3 : decode cX4_draftWorths 3 = .ok (.aload_n 0, 1) := by decide +kernel
theorem dX4_draftWorths_4 : decode cX4_draftWorths 4 = .ok (.getfield 22, 3) := by decide +kernel
theorem dX4_draftWorths_7 : decode cX4_draftWorths 7 = .ok (.if_icmp .ge 38, 3) := by decide +kernel
theorem dX4_draftWorths_10 : decode cX4_draftWorths 10 = .ok (.aload_n 0, 1) := by decide +kernel
theorem dX4_draftWorths_11 : decode cX4_draftWorths 11 = .ok (.getfield 52, 3) := by decide +kernel
theorem dX4_draftWorths_14 : decode cX4_draftWorths 14 = .ok (.iload_n 2, 1) := by decide +kernel
theorem dX4_draftWorths_15 : decode cX4_draftWorths 15 = .ok (.aload_n 1, 1) := by decide +kernel
theorem dX4_draftWorths_16 : decode cX4_draftWorths 16 = .ok (.iload_n 2, 1) := by decide +kernel
theorem dX4_draftWorths_17 : decode cX4_draftWorths 17 = .ok (.iconst 0, 1) := by decide +kernel
theorem dX4_draftWorths_18 : decode cX4_draftWorths 18 = .ok (.aload_n 0, 1) := by decide +kernel
theorem dX4_draftWorths_19 : decode cX4_draftWorths 19 = .ok (.getfield 58, 3) := by decide +kernel
theorem dX4_draftWorths_22 : decode cX4_draftWorths 22 = .ok (.invokevirtual 83, 3) := by decide +kernel
theorem dX4_draftWorths_25 : decode cX4_draftWorths 25 = .ok (.lastore, 1) := by decide +kernel
theorem dX4_draftWorths_26 : decode cX4_draftWorths 26 = .ok (.aload_n 0, 1) := by decide +kernel
theorem dX4_draftWorths_27 : decode cX4_draftWorths 27 = .ok (.getfield 52, 3) := by decide +kernel
theorem dX4_draftWorths_30 : decode cX4_draftWorths 30 = .ok (.iload_n 2, 1) := by decide +kernel
theorem dX4_draftWorths_31 : decode cX4_draftWorths 31 = .ok (.laload, 1) := by decide +kernel
theorem dX4_draftWorths_32 : decode cX4_draftWorths 32 = .ok (.lconst 0, 1) := by decide +kernel
theorem dX4_draftWorths_33 : decode cX4_draftWorths 33 = .ok (.lcmp, 1) := by decide +kernel
theorem dX4_draftWorths_34 : decode cX4_draftWorths 34 = .ok (.ifCond .ge 5, 3) := by decide +kernel
theorem dX4_draftWorths_37 : decode cX4_draftWorths 37 = .ok (.iload_n 2, 1) := by decide +kernel
theorem dX4_draftWorths_38 : decode cX4_draftWorths 38 = .ok (.ireturn, 1) := by decide +kernel
theorem dX4_draftWorths_39 : decode cX4_draftWorths 39 = .ok (.iinc 2 1, 3) := by decide +kernel
theorem dX4_draftWorths_42 : decode cX4_draftWorths 42 = .ok (.goto (-40), 3) := by decide +kernel
theorem dX4_draftWorths_45 : decode cX4_draftWorths 45 = .ok (.iconst (-1), 1) := by decide +kernel
theorem dX4_draftWorths_46 : decode cX4_draftWorths 46 = .ok (.ireturn, 1) := by decide +kernel
theorem dX4_halveDraft_0 : decode cX4_halveDraft 0 = .ok (.iconst 0, 1) := by decide +kernel
theorem dX4_halveDraft_1 : decode cX4_halveDraft 1 = .ok (.istore_n 2, 1) := by decide +kernel
theorem dX4_halveDraft_2 : decode cX4_halveDraft 2 = .ok (.iload_n 2, 1) := by decide +kernel
theorem dX4_halveDraft_3 : decode cX4_halveDraft 3 = .ok (.aload_n 0, 1) := by decide +kernel
theorem dX4_halveDraft_4 : decode cX4_halveDraft 4 = .ok (.getfield 22, 3) := by decide +kernel
theorem dX4_halveDraft_7 : decode cX4_halveDraft 7 = .ok (.if_icmp .ge 40, 3) := by decide +kernel
theorem dX4_halveDraft_10 : decode cX4_halveDraft 10 = .ok (.iload_n 2, 1) := by decide +kernel
theorem dX4_halveDraft_11 : decode cX4_halveDraft 11 = .ok (.iload_n 1, 1) := by decide +kernel
theorem dX4_halveDraft_12 : decode cX4_halveDraft 12 = .ok (.iand, 1) := by decide +kernel
theorem dX4_halveDraft_13 : decode cX4_halveDraft 13 = .ok (.ifCond .ne 28, 3) := by decide +kernel
theorem dX4_halveDraft_16 : decode cX4_halveDraft 16 = .ok (.aload_n 0, 1) := by decide +kernel
theorem dX4_halveDraft_17 : decode cX4_halveDraft 17 = .ok (.getfield 52, 3) := by decide +kernel
theorem dX4_halveDraft_20 : decode cX4_halveDraft 20 = .ok (.iload_n 2, 1) := by decide +kernel
theorem dX4_halveDraft_21 : decode cX4_halveDraft 21 = .ok (.ldc2_w 184, 3) := by decide +kernel
theorem dX4_halveDraft_24 : decode cX4_halveDraft 24 = .ok (.aload_n 0, 1) := by decide +kernel
theorem dX4_halveDraft_25 : decode cX4_halveDraft 25 = .ok (.getfield 52, 3) := by decide +kernel
theorem dX4_halveDraft_28 : decode cX4_halveDraft 28 = .ok (.iload_n 2, 1) := by decide +kernel
theorem dX4_halveDraft_29 : decode cX4_halveDraft 29 = .ok (.laload, 1) := by decide +kernel
theorem dX4_halveDraft_30 : decode cX4_halveDraft 30 = .ok (.lmul, 1) := by decide +kernel
theorem dX4_halveDraft_31 : decode cX4_halveDraft 31 = .ok (.aload_n 0, 1) := by decide +kernel
theorem dX4_halveDraft_32 : decode cX4_halveDraft 32 = .ok (.getfield 52, 3) := by decide +kernel
theorem dX4_halveDraft_35 : decode cX4_halveDraft 35 = .ok (.iload_n 2, 1) := by decide +kernel
theorem dX4_halveDraft_36 : decode cX4_halveDraft 36 = .ok (.iload_n 1, 1) := by decide +kernel
theorem dX4_halveDraft_37 : decode cX4_halveDraft 37 = .ok (.ior, 1) := by decide +kernel
theorem dX4_halveDraft_38 : decode cX4_halveDraft 38 = .ok (.laload, 1) := by decide +kernel
theorem dX4_halveDraft_39 : decode cX4_halveDraft 39 = .ok (.ladd, 1) := by decide +kernel
theorem dX4_halveDraft_40 : decode cX4_halveDraft 40 = .ok (.lastore, 1) := by decide +kernel
theorem dX4_halveDraft_41 : decode cX4_halveDraft 41 = .ok (.iinc 2 1, 3) := by decide +kernel
theorem dX4_halveDraft_44 : decode cX4_halveDraft 44 = .ok (.goto (-42), 3) := by decide +kernel
theorem dX4_halveDraft_47 : decode cX4_halveDraft 47 = .ok (.return_, 1) := by decide +kernel
set_option maxRecDepth 20000 in
theorem ggX4_settle_X4_commonDivisor : GoodIn wsX4_settle wsX4_commonDivisor := goodIn_r _ [8] (by decide +kernel) (by decide +kernel)
set_option maxRecDepth 20000 in
theorem gX4_settle_X4_commonDivisor : GoodIn wsX4_settle (va_wsS RX4 186 yX4_commonDivisor wsX4_commonDivisor) := goodIn_app (goodIn_of _ (by decide +kernel)) ggX4_settle_X4_commonDivisor
set_option maxRecDepth 20000 in
theorem ggX4_settle_X0_become : GoodIn wsX4_settle wsX0_become := goodIn_r _ [13, 14, 15, 16, 25, 26, 27] (by decide +kernel) (by decide +kernel)
set_option maxRecDepth 20000 in
theorem gX4_settle_X0_become : GoodIn wsX4_settle (wsV RX4 190 RX0 yX0_become wsX0_become) := goodIn_app (goodIn_of _ (by decide +kernel)) ggX4_settle_X0_become
theorem dX4_settle_0 : decode cX4_settle 0 = .ok (.lconst 0, 1) := by decide +kernel
theorem dX4_settle_1 : decode cX4_settle 1 = .ok (.lstore_n 2, 1) := by decide +kernel
theorem dX4_settle_2 : decode cX4_settle 2 = .ok (.iconst 0, 1) := by decide +kernel
theorem dX4_settle_3 : decode cX4_settle 3 = .ok (.istore 4, 2) := by decide +kernel
theorem dX4_settle_5 : decode cX4_settle 5 = .ok (.iload 4, 2) := by decide +kernel
theorem dX4_settle_7 : decode cX4_settle 7 = .ok (.aload_n 0, 1) := by decide +kernel
theorem dX4_settle_8 : decode cX4_settle 8 = .ok (.getfield 22, 3) := by decide +kernel
theorem dX4_settle_11 : decode cX4_settle 11 = .ok (.if_icmp .ge 21, 3) := by decide +kernel
theorem dX4_settle_14 : decode cX4_settle 14 = .ok (.aload_n 0, 1) := by decide +kernel
theorem dX4_settle_15 : decode cX4_settle 15 = .ok (.getfield 52, 3) := by decide +kernel
theorem dX4_settle_18 : decode cX4_settle 18 = .ok (.iload 4, 2) := by decide +kernel
theorem dX4_settle_20 : decode cX4_settle 20 = .ok (.laload, 1) := by decide +kernel
theorem dX4_settle_21 : decode cX4_settle 21 = .ok (.lload_n 2, 1) := by decide +kernel
theorem dX4_settle_22 : decode cX4_settle 22 = .ok (.invokestatic 186, 3) := by decide +kernel
theorem dX4_settle_25 : decode cX4_settle 25 = .ok (.lstore_n 2, 1) := by decide +kernel
theorem dX4_settle_26 : decode cX4_settle 26 = .ok (.iinc 4 1, 3) := by decide +kernel
theorem dX4_settle_29 : decode cX4_settle 29 = .ok (.goto (-24), 3) := by decide +kernel
theorem dX4_settle_32 : decode cX4_settle 32 = .ok (.lload_n 2, 1) := by decide +kernel
theorem dX4_settle_33 : decode cX4_settle 33 = .ok (.lconst 1, 1) := by decide +kernel
theorem dX4_settle_34 : decode cX4_settle 34 = .ok (.lcmp, 1) := by decide +kernel
theorem dX4_settle_35 : decode cX4_settle 35 = .ok (.ifCond .ge 5, 3) := by decide +kernel
theorem dX4_settle_38 : decode cX4_settle 38 = .ok (.iconst 0, 1) := by decide +kernel
theorem dX4_settle_39 : decode cX4_settle 39 = .ok (.ireturn, 1) := by decide +kernel
theorem dX4_settle_40 : decode cX4_settle 40 = .ok (.iconst 0, 1) := by decide +kernel
theorem dX4_settle_41 : decode cX4_settle 41 = .ok (.istore 4, 2) := by decide +kernel
theorem dX4_settle_43 : decode cX4_settle 43 = .ok (.iload 4, 2) := by decide +kernel
theorem dX4_settle_45 : decode cX4_settle 45 = .ok (.aload_n 0, 1) := by decide +kernel
theorem dX4_settle_46 : decode cX4_settle 46 = .ok (.getfield 22, 3) := by decide +kernel
theorem dX4_settle_49 : decode cX4_settle 49 = .ok (.if_icmp .ge 36, 3) := by decide +kernel
theorem dX4_settle_52 : decode cX4_settle 52 = .ok (.aload_n 0, 1) := by decide +kernel
theorem dX4_settle_53 : decode cX4_settle 53 = .ok (.getfield 52, 3) := by decide +kernel
theorem dX4_settle_56 : decode cX4_settle 56 = .ok (.iload 4, 2) := by decide +kernel
theorem dX4_settle_58 : decode cX4_settle 58 = .ok (.dup2, 1) := by decide +kernel
theorem dX4_settle_59 : decode cX4_settle 59 = .ok (.laload, 1) := by decide +kernel
theorem dX4_settle_60 : decode cX4_settle 60 = .ok (.lload_n 2, 1) := by decide +kernel
theorem dX4_settle_61 : decode cX4_settle 61 = .ok (.ldiv, 1) := by decide +kernel
theorem dX4_settle_62 : decode cX4_settle 62 = .ok (.lastore, 1) := by decide +kernel
theorem dX4_settle_63 : decode cX4_settle 63 = .ok (.aload_n 0, 1) := by decide +kernel
theorem dX4_settle_64 : decode cX4_settle 64 = .ok (.getfield 52, 3) := by decide +kernel
theorem dX4_settle_67 : decode cX4_settle 67 = .ok (.iload 4, 2) := by decide +kernel
theorem dX4_settle_69 : decode cX4_settle 69 = .ok (.laload, 1) := by decide +kernel
theorem dX4_settle_70 : decode cX4_settle 70 = .ok (.ldc2_w 115, 3) := by decide +kernel
theorem dX4_settle_73 : decode cX4_settle 73 = .ok (.lcmp, 1) := by decide +kernel
theorem dX4_settle_74 : decode cX4_settle 74 = .ok (.ifCond .le 5, 3) := by decide +kernel
theorem dX4_settle_77 : decode cX4_settle 77 = .ok (.iconst 0, 1) := by decide +kernel
theorem dX4_settle_78 : decode cX4_settle 78 = .ok (.ireturn, 1) := by decide +kernel
theorem dX4_settle_79 : decode cX4_settle 79 = .ok (.iinc 4 1, 3) := by decide +kernel
theorem dX4_settle_82 : decode cX4_settle 82 = .ok (.goto (-39), 3) := by decide +kernel
theorem dX4_settle_85 : decode cX4_settle 85 = .ok (.aload_n 0, 1) := by decide +kernel
theorem dX4_settle_86 : decode cX4_settle 86 = .ok (.getfield 33, 3) := by decide +kernel
theorem dX4_settle_89 : decode cX4_settle 89 = .ok (.iload_n 1, 1) := by decide +kernel
theorem dX4_settle_90 : decode cX4_settle 90 = .ok (.aaload, 1) := by decide +kernel
theorem dX4_settle_91 : decode cX4_settle 91 = .ok (.aload_n 0, 1) := by decide +kernel
theorem dX4_settle_92 : decode cX4_settle 92 = .ok (.getfield 52, 3) := by decide +kernel
theorem dX4_settle_95 : decode cX4_settle 95 = .ok (.invokevirtual 190, 3) := by decide +kernel
theorem dX4_settle_98 : decode cX4_settle 98 = .ok (.iconst 1, 1) := by decide +kernel
theorem dX4_settle_99 : decode cX4_settle 99 = .ok (.ireturn, 1) := by decide +kernel
theorem dX4_withBestThing_0 : decode cX4_withBestThing 0 = .ok (.iload_n 2, 1) := by decide +kernel
theorem dX4_withBestThing_1 : decode cX4_withBestThing 1 = .ok (.istore_n 3, 1) := by decide +kernel
theorem dX4_withBestThing_2 : decode cX4_withBestThing 2 = .ok (.iconst 0, 1) := by decide +kernel
theorem dX4_withBestThing_3 : decode cX4_withBestThing 3 = .ok (.istore 4, 2) := by decide +kernel
theorem dX4_withBestThing_5 : decode cX4_withBestThing 5 = .ok (.iload 4, 2) := by decide +kernel
theorem dX4_withBestThing_7 : decode cX4_withBestThing 7 = .ok (.aload_n 0, 1) := by decide +kernel
theorem dX4_withBestThing_8 : decode cX4_withBestThing 8 = .ok (.getfield 18, 3) := by decide +kernel
theorem dX4_withBestThing_11 : decode cX4_withBestThing 11 = .ok (.if_icmp .ge 48, 3) := by decide +kernel
theorem dX4_withBestThing_14 : decode cX4_withBestThing 14 = .ok (.iload_n 2, 1) := by decide +kernel
theorem dX4_withBestThing_15 : decode cX4_withBestThing 15 = .ok (.iconst 1, 1) := by decide +kernel
theorem dX4_withBestThing_16 : decode cX4_withBestThing 16 = .ok (.iload 4, 2) := by decide +kernel
theorem dX4_withBestThing_18 : decode cX4_withBestThing 18 = .ok (.ishl, 1) := by decide +kernel
theorem dX4_withBestThing_19 : decode cX4_withBestThing 19 = .ok (.ior, 1) := by decide +kernel
theorem dX4_withBestThing_20 : decode cX4_withBestThing 20 = .ok (.istore 5, 2) := by decide +kernel
theorem dX4_withBestThing_22 : decode cX4_withBestThing 22 = .ok (.iload 5, 2) := by decide +kernel
theorem dX4_withBestThing_24 : decode cX4_withBestThing 24 = .ok (.iload_n 2, 1) := by decide +kernel
theorem dX4_withBestThing_25 : decode cX4_withBestThing 25 = .ok (.if_icmp .eq 28, 3) := by decide +kernel
theorem dX4_withBestThing_28 : decode cX4_withBestThing 28 = .ok (.iload_n 3, 1) := by decide +kernel
theorem dX4_withBestThing_29 : decode cX4_withBestThing 29 = .ok (.iload_n 2, 1) := by decide +kernel
theorem dX4_withBestThing_30 : decode cX4_withBestThing 30 = .ok (.if_icmp .eq 20, 3) := by decide +kernel
theorem dX4_withBestThing_33 : decode cX4_withBestThing 33 = .ok (.aload_n 1, 1) := by decide +kernel
theorem dX4_withBestThing_34 : decode cX4_withBestThing 34 = .ok (.getfield 130, 3) := by decide +kernel
theorem dX4_withBestThing_37 : decode cX4_withBestThing 37 = .ok (.iload 5, 2) := by decide +kernel
theorem dX4_withBestThing_39 : decode cX4_withBestThing 39 = .ok (.laload, 1) := by decide +kernel
theorem dX4_withBestThing_40 : decode cX4_withBestThing 40 = .ok (.aload_n 1, 1) := by decide +kernel
theorem dX4_withBestThing_41 : decode cX4_withBestThing 41 = .ok (.getfield 130, 3) := by decide +kernel
theorem dX4_withBestThing_44 : decode cX4_withBestThing 44 = .ok (.iload_n 3, 1) := by decide +kernel
theorem dX4_withBestThing_45 : decode cX4_withBestThing 45 = .ok (.laload, 1) := by decide +kernel
theorem dX4_withBestThing_46 : decode cX4_withBestThing 46 = .ok (.lcmp, 1) := by decide +kernel
theorem dX4_withBestThing_47 : decode cX4_withBestThing 47 = .ok (.ifCond .le 6, 3) := by decide +kernel
theorem dX4_withBestThing_50 : decode cX4_withBestThing 50 = .ok (.iload 5, 2) := by decide +kernel
theorem dX4_withBestThing_52 : decode cX4_withBestThing 52 = .ok (.istore_n 3, 1) := by decide +kernel
theorem dX4_withBestThing_53 : decode cX4_withBestThing 53 = .ok (.iinc 4 1, 3) := by decide +kernel
theorem dX4_withBestThing_56 : decode cX4_withBestThing 56 = .ok (.goto (-51), 3) := by decide +kernel
theorem dX4_withBestThing_59 : decode cX4_withBestThing 59 = .ok (.iload_n 3, 1) := by decide +kernel
theorem dX4_withBestThing_60 : decode cX4_withBestThing 60 = .ok (.ireturn, 1) := by decide +kernel
theorem dX4_has_0 : decode cX4_has 0 = .ok (.iload_n 0, 1) := by decide +kernel
theorem dX4_has_1 : decode cX4_has 1 = .ok (.iload_n 1, 1) := by decide +kernel
theorem dX4_has_2 : decode cX4_has 2 = .ok (.ishr, 1) := by decide +kernel
theorem dX4_has_3 : decode cX4_has 3 = .ok (.iconst 1, 1) := by decide +kernel
theorem dX4_has_4 : decode cX4_has 4 = .ok (.iand, 1) := by decide +kernel
theorem dX4_has_5 : decode cX4_has 5 = .ok (.ifCond .eq 7, 3) := by decide +kernel
theorem dX4_has_8 : decode cX4_has 8 = .ok (.iconst 1, 1) := by decide +kernel
theorem dX4_has_9 : decode cX4_has 9 = .ok (.goto 4, 3) := by decide +kernel
theorem dX4_has_12 : decode cX4_has 12 = .ok (.iconst 0, 1) := by decide +kernel
theorem dX4_has_13 : decode cX4_has 13 = .ok (.ireturn, 1) := by decide +kernel
theorem dX4_fits_0 : decode cX4_fits 0 = .ok (.iload_n 0, 1) := by decide +kernel
theorem dX4_fits_1 : decode cX4_fits 1 = .ok (.iload_n 1, 1) := by decide +kernel
theorem dX4_fits_2 : decode cX4_fits 2 = .ok (.iand, 1) := by decide +kernel
theorem dX4_fits_3 : decode cX4_fits 3 = .ok (.iload_n 1, 1) := by decide +kernel
theorem dX4_fits_4 : decode cX4_fits 4 = .ok (.if_icmp .ne 13, 3) := by decide +kernel
theorem dX4_fits_7 : decode cX4_fits 7 = .ok (.iload_n 0, 1) := by decide +kernel
theorem dX4_fits_8 : decode cX4_fits 8 = .ok (.iload_n 2, 1) := by decide +kernel
theorem dX4_fits_9 : decode cX4_fits 9 = .ok (.iand, 1) := by decide +kernel
theorem dX4_fits_10 : decode cX4_fits 10 = .ok (.ifCond .ne 7, 3) := by decide +kernel
theorem dX4_fits_13 : decode cX4_fits 13 = .ok (.iconst 1, 1) := by decide +kernel
theorem dX4_fits_14 : decode cX4_fits 14 = .ok (.goto 4, 3) := by decide +kernel
theorem dX4_fits_17 : decode cX4_fits 17 = .ok (.iconst 0, 1) := by decide +kernel
theorem dX4_fits_18 : decode cX4_fits 18 = .ok (.ireturn, 1) := by decide +kernel
set_option maxRecDepth 20000 in
theorem ggX4_lowest_X4_commonDivisor : GoodIn wsX4_lowest wsX4_commonDivisor := goodIn_r _ [9] (by decide +kernel) (by decide +kernel)
set_option maxRecDepth 20000 in
theorem gX4_lowest_X4_commonDivisor : GoodIn wsX4_lowest (va_wsS RX4 186 yX4_commonDivisor wsX4_commonDivisor) := goodIn_app (goodIn_of _ (by decide +kernel)) ggX4_lowest_X4_commonDivisor
theorem dX4_lowest_0 : decode cX4_lowest 0 = .ok (.lload_n 0, 1) := by decide +kernel
theorem dX4_lowest_1 : decode cX4_lowest 1 = .ok (.invokestatic 194, 3) := by decide +kernel
theorem dX4_lowest_4 : decode cX4_lowest 4 = .ok (.lload_n 2, 1) := by decide +kernel
theorem dX4_lowest_5 : decode cX4_lowest 5 = .ok (.invokestatic 186, 3) := by decide +kernel
theorem dX4_lowest_8 : decode cX4_lowest 8 = .ok (.lstore 5, 2) := by decide +kernel
theorem dX4_lowest_10 : decode cX4_lowest 10 = .ok (.lload 5, 2) := by decide +kernel
theorem dX4_lowest_12 : decode cX4_lowest 12 = .ok (.lconst 1, 1) := by decide +kernel
theorem dX4_lowest_13 : decode cX4_lowest 13 = .ok (.lcmp, 1) := by decide +kernel
theorem dX4_lowest_14 : decode cX4_lowest 14 = .ok (.ifCond .ge 7, 3) := by decide +kernel
theorem dX4_lowest_17 : decode cX4_lowest 17 = .ok (.ldc2_w 143, 3) := by decide +kernel
theorem dX4_lowest_20 : decode cX4_lowest 20 = .ok (.lreturn, 1) := by decide +kernel
theorem dX4_lowest_21 : decode cX4_lowest 21 = .ok (.iload 4, 2) := by decide +kernel
theorem dX4_lowest_23 : decode cX4_lowest 23 = .ok (.ifCond .ne 10, 3) := by decide +kernel
theorem dX4_lowest_26 : decode cX4_lowest 26 = .ok (.lload_n 0, 1) := by decide +kernel
theorem dX4_lowest_27 : decode cX4_lowest 27 = .ok (.lload 5, 2) := by decide +kernel
theorem dX4_lowest_29 : decode cX4_lowest 29 = .ok (.ldiv, 1) := by decide +kernel
theorem dX4_lowest_30 : decode cX4_lowest 30 = .ok (.goto 7, 3) := by decide +kernel
theorem dX4_lowest_33 : decode cX4_lowest 33 = .ok (.lload_n 2, 1) := by decide +kernel
theorem dX4_lowest_34 : decode cX4_lowest 34 = .ok (.lload 5, 2) := by decide +kernel
theorem dX4_lowest_36 : decode cX4_lowest 36 = .ok (.ldiv, 1) := by decide +kernel
theorem dX4_lowest_37 : decode cX4_lowest 37 = .ok (.lreturn, 1) := by decide +kernel
theorem dX4_commonDivisor_0 : decode cX4_commonDivisor 0 = .ok (.lload_n 0, 1) := by decide +kernel
theorem dX4_commonDivisor_1 : decode cX4_commonDivisor 1 = .ok (.lstore 4, 2) := by decide +kernel
theorem dX4_commonDivisor_3 : decode cX4_commonDivisor 3 = .ok (.lload_n 2, 1) := by decide +kernel
theorem dX4_commonDivisor_4 : decode cX4_commonDivisor 4 = .ok (.lstore 6, 2) := by decide +kernel
theorem dX4_commonDivisor_6 : decode cX4_commonDivisor 6 = .ok (.iconst 0, 1) := by decide +kernel
theorem dX4_commonDivisor_7 : decode cX4_commonDivisor 7 = .ok (.istore 8, 2) := by decide +kernel
theorem dX4_commonDivisor_9 : decode cX4_commonDivisor 9 = .ok (.iload 8, 2) := by decide +kernel
theorem dX4_commonDivisor_11 : decode cX4_commonDivisor 11 = .ok (.bipush 100, 2) := by decide +kernel
theorem dX4_commonDivisor_13 : decode cX4_commonDivisor 13 = .ok (.if_icmp .ge 31, 3) := by decide +kernel
theorem dX4_commonDivisor_16 : decode cX4_commonDivisor 16 = .ok (.lload 6, 2) := by decide +kernel
theorem dX4_commonDivisor_18 : decode cX4_commonDivisor 18 = .ok (.lconst 0, 1) := by decide +kernel
theorem dX4_commonDivisor_19 : decode cX4_commonDivisor 19 = .ok (.lcmp, 1) := by decide +kernel
theorem dX4_commonDivisor_20 : decode cX4_commonDivisor 20 = .ok (.ifCond .eq 24, 3) := by decide +kernel
theorem dX4_commonDivisor_23 : decode cX4_commonDivisor 23 = .ok (.lload 4, 2) := by decide +kernel
theorem dX4_commonDivisor_25 : decode cX4_commonDivisor 25 = .ok (.lload 6, 2) := by decide +kernel
theorem dX4_commonDivisor_27 : decode cX4_commonDivisor 27 = .ok (.lrem, 1) := by decide +kernel
theorem dX4_commonDivisor_28 : decode cX4_commonDivisor 28 = .ok (.lstore 9, 2) := by decide +kernel
theorem dX4_commonDivisor_30 : decode cX4_commonDivisor 30 = .ok (.lload 6, 2) := by decide +kernel
theorem dX4_commonDivisor_32 : decode cX4_commonDivisor 32 = .ok (.lstore 4, 2) := by decide +kernel
theorem dX4_commonDivisor_34 : decode cX4_commonDivisor 34 = .ok (.lload 9, 2) := by decide +kernel
theorem dX4_commonDivisor_36 : decode cX4_commonDivisor 36 = .ok (.lstore 6, 2) := by decide +kernel
theorem dX4_commonDivisor_38 : decode cX4_commonDivisor 38 = .ok (.iinc 8 1, 3) := by decide +kernel
theorem dX4_commonDivisor_41 : decode cX4_commonDivisor 41 = .ok (.goto (-32), 3) := by decide +kernel
theorem dX4_commonDivisor_44 : decode cX4_commonDivisor 44 = .ok (.lload 4, 2) := by decide +kernel
theorem dX4_commonDivisor_46 : decode cX4_commonDivisor 46 = .ok (.lreturn, 1) := by decide +kernel
end
section
theorem dX5_in_0 : decode cX5_in 0 = .ok (.iload_n 0, 1) := by decide +kernel
theorem dX5_in_1 : decode cX5_in 1 = .ok (.iload_n 1, 1) := by decide +kernel
theorem dX5_in_2 : decode cX5_in 2 = .ok (.if_icmp .lt 12, 3) := by decide +kernel
theorem dX5_in_5 : decode cX5_in 5 = .ok (.iload_n 0, 1) := by decide +kernel
theorem dX5_in_6 : decode cX5_in 6 = .ok (.iload_n 2, 1) := by decide +kernel
theorem dX5_in_7 : decode cX5_in 7 = .ok (.if_icmp .gt 7, 3) := by decide +kernel
theorem dX5_in_10 : decode cX5_in 10 = .ok (.iconst 1, 1) := by decide +kernel
theorem dX5_in_11 : decode cX5_in 11 = .ok (.goto 4, 3) := by decide +kernel
theorem dX5_in_14 : decode cX5_in 14 = .ok (.iconst 0, 1) := by decide +kernel
theorem dX5_in_15 : decode cX5_in 15 = .ok (.ireturn, 1) := by decide +kernel
theorem dX5_init_0 : decode cX5_init 0 = .ok (.aload_n 0, 1) := by decide +kernel
theorem dX5_init_1 : decode cX5_init 1 = .ok (.invokespecial 1, 3) := by decide +kernel
theorem dX5_init_4 : decode cX5_init 4 = .ok (.aload_n 0, 1) := by decide +kernel
theorem dX5_init_5 : decode cX5_init 5 = .ok (.sipush 216, 3) := by decide +kernel
theorem dX5_init_8 : decode cX5_init 8 = .ok (.newarray .int, 2) := by decide +kernel
theorem dX5_init_10 : decode cX5_init 10 = .ok (.putfield 7, 3) := by decide +kernel
theorem dX5_init_13 : decode cX5_init 13 = .ok (.aload_n 0, 1) := by decide +kernel
theorem dX5_init_14 : decode cX5_init 14 = .ok (.bipush 6, 2) := by decide +kernel
theorem dX5_init_16 : decode cX5_init 16 = .ok (.newarray .int, 2) := by decide +kernel
theorem dX5_init_18 : decode cX5_init 18 = .ok (.putfield 13, 3) := by decide +kernel
theorem dX5_init_21 : decode cX5_init 21 = .ok (.aload_n 0, 1) := by decide +kernel
theorem dX5_init_22 : decode cX5_init 22 = .ok (.bipush 64, 2) := by decide +kernel
theorem dX5_init_24 : decode cX5_init 24 = .ok (.newarray .long, 2) := by decide +kernel
theorem dX5_init_26 : decode cX5_init 26 = .ok (.putfield 16, 3) := by decide +kernel
theorem dX5_init_29 : decode cX5_init 29 = .ok (.aload_n 0, 1) := by decide +kernel
theorem dX5_init_30 : decode cX5_init 30 = .ok (.sipush 384, 3) := by decide +kernel
theorem dX5_init_33 : decode cX5_init 33 = .ok (.newarray .long, 2) := by decide +kernel
theorem dX5_init_35 : decode cX5_init 35 = .ok (.putfield 20, 3) := by decide +kernel
theorem dX5_init_38 : decode cX5_init 38 = .ok (.aload_n 0, 1) := by decide +kernel
theorem dX5_init_39 : decode cX5_init 39 = .ok (.bipush 64, 2) := by decide +kernel
theorem dX5_init_41 : decode cX5_init 41 = .ok (.newarray .long, 2) := by decide +kernel
theorem dX5_init_43 : decode cX5_init 43 = .ok (.putfield 23, 3) := by decide +kernel
theorem dX5_init_46 : decode cX5_init 46 = .ok (.aload_n 0, 1) := by decide +kernel
theorem dX5_init_47 : decode cX5_init 47 = .ok (.bipush 64, 2) := by decide +kernel
theorem dX5_init_49 : decode cX5_init 49 = .ok (.newarray .long, 2) := by decide +kernel
theorem dX5_init_51 : decode cX5_init 51 = .ok (.putfield 26, 3) := by decide +kernel
theorem dX5_init_54 : decode cX5_init 54 = .ok (.aload_n 0, 1) := by decide +kernel
theorem dX5_init_55 : decode cX5_init 55 = .ok (.bipush 6, 2) := by decide +kernel
theorem dX5_init_57 : decode cX5_init 57 = .ok (.newarray .boolean, 2) := by decide +kernel
theorem dX5_init_59 : decode cX5_init 59 = .ok (.putfield 29, 3) := by decide +kernel
theorem dX5_init_62 : decode cX5_init 62 = .ok (.aload_n 0, 1) := by decide +kernel
theorem dX5_init_63 : decode cX5_init 63 = .ok (.bipush 6, 2) := by decide +kernel
theorem dX5_init_65 : decode cX5_init 65 = .ok (.newarray .int, 2) := by decide +kernel
theorem dX5_init_67 : decode cX5_init 67 = .ok (.putfield 33, 3) := by decide +kernel
theorem dX5_init_70 : decode cX5_init 70 = .ok (.aload_n 0, 1) := by decide +kernel
theorem dX5_init_71 : decode cX5_init 71 = .ok (.bipush 6, 2) := by decide +kernel
theorem dX5_init_73 : decode cX5_init 73 = .ok (.newarray .int, 2) := by decide +kernel
theorem dX5_init_75 : decode cX5_init 75 = .ok (.putfield 36, 3) := by decide +kernel
theorem dX5_init_78 : decode cX5_init 78 = .ok (.aload_n 0, 1) := by decide +kernel
theorem dX5_init_79 : decode cX5_init 79 = .ok (.bipush 6, 2) := by decide +kernel
theorem dX5_init_81 : decode cX5_init 81 = .ok (.newarray .int, 2) := by decide +kernel
theorem dX5_init_83 : decode cX5_init 83 = .ok (.putfield 39, 3) := by decide +kernel
theorem dX5_init_86 : decode cX5_init 86 = .ok (.aload_n 0, 1) := by decide +kernel
theorem dX5_init_87 : decode cX5_init 87 = .ok (.iconst 5, 1) := by decide +kernel
theorem dX5_init_88 : decode cX5_init 88 = .ok (.newarray .int, 2) := by decide +kernel
theorem dX5_init_90 : decode cX5_init 90 = .ok (.putfield 42, 3) := by decide +kernel
theorem dX5_init_93 : decode cX5_init 93 = .ok (.aload_n 0, 1) := by decide +kernel
theorem dX5_init_94 : decode cX5_init 94 = .ok (.iload_n 1, 1) := by decide +kernel
theorem dX5_init_95 : decode cX5_init 95 = .ok (.iconst 2, 1) := by decide +kernel
theorem dX5_init_96 : decode cX5_init 96 = .ok (.if_icmp .ge 7, 3) := by decide +kernel
theorem dX5_init_99 : decode cX5_init 99 = .ok (.iconst 2, 1) := by decide +kernel
theorem dX5_init_100 : decode cX5_init 100 = .ok (.goto 15, 3) := by decide +kernel
theorem dX5_init_103 : decode cX5_init 103 = .ok (.iload_n 1, 1) := by decide +kernel
theorem dX5_init_104 : decode cX5_init 104 = .ok (.bipush 6, 2) := by decide +kernel
theorem dX5_init_106 : decode cX5_init 106 = .ok (.if_icmp .le 8, 3) := by decide +kernel
theorem dX5_init_109 : decode cX5_init 109 = .ok (.bipush 6, 2) := by decide +kernel
theorem dX5_init_111 : decode cX5_init 111 = .ok (.goto 4, 3) := by decide +kernel
theorem dX5_init_114 : decode cX5_init 114 = .ok (.iload_n 1, 1) := by decide +kernel
theorem dX5_init_115 : decode cX5_init 115 = .ok (.putfield 45, 3) := by decide +kernel
theorem dX5_init_118 : decode cX5_init 118 = .ok (.aload_n 0, 1) := by decide +kernel
theorem dX5_init_119 : decode cX5_init 119 = .ok (.iconst 1, 1) := by decide +kernel
theorem dX5_init_120 : decode cX5_init 120 = .ok (.aload_n 0, 1) := by decide +kernel
theorem dX5_init_121 : decode cX5_init 121 = .ok (.getfield 45, 3) := by decide +kernel
theorem dX5_init_124 : decode cX5_init 124 = .ok (.ishl, 1) := by decide +kernel
theorem dX5_init_125 : decode cX5_init 125 = .ok (.putfield 49, 3) := by decide +kernel
theorem dX5_init_128 : decode cX5_init 128 = .ok (.return_, 1) := by decide +kernel
set_option maxRecDepth 20000 in
theorem ggX5_isThing_X5_in : GoodIn wsX5_isThing wsX5_in := goodIn_r _ [5] (by decide +kernel) (by decide +kernel)
set_option maxRecDepth 20000 in
theorem gX5_isThing_X5_in : GoodIn wsX5_isThing (va_wsS RX5 52 yX5_in wsX5_in) := goodIn_app (goodIn_of _ (by decide +kernel)) ggX5_isThing_X5_in
theorem dX5_isThing_0 : decode cX5_isThing 0 = .ok (.iload_n 1, 1) := by decide +kernel
theorem dX5_isThing_1 : decode cX5_isThing 1 = .ok (.iconst 0, 1) := by decide +kernel
theorem dX5_isThing_2 : decode cX5_isThing 2 = .ok (.aload_n 0, 1) := by decide +kernel
theorem dX5_isThing_3 : decode cX5_isThing 3 = .ok (.getfield 45, 3) := by decide +kernel
theorem dX5_isThing_6 : decode cX5_isThing 6 = .ok (.iconst 1, 1) := by decide +kernel
theorem dX5_isThing_7 : decode cX5_isThing 7 = .ok (.isub, 1) := by decide +kernel
theorem dX5_isThing_8 : decode cX5_isThing 8 = .ok (.invokestatic 52, 3) := by decide +kernel
theorem dX5_isThing_11 : decode cX5_isThing 11 = .ok (.ireturn, 1) := by decide +kernel
set_option maxRecDepth 20000 in
theorem ggX5_isSet_X5_in : GoodIn wsX5_isSet wsX5_in := goodIn_r _ [5] (by decide +kernel) (by decide +kernel)
set_option maxRecDepth 20000 in
theorem gX5_isSet_X5_in : GoodIn wsX5_isSet (va_wsS RX5 52 yX5_in wsX5_in) := goodIn_app (goodIn_of _ (by decide +kernel)) ggX5_isSet_X5_in
theorem dX5_isSet_0 : decode cX5_isSet 0 = .ok (.iload_n 1, 1) := by decide +kernel
theorem dX5_isSet_1 : decode cX5_isSet 1 = .ok (.iconst 0, 1) := by decide +kernel
theorem dX5_isSet_2 : decode cX5_isSet 2 = .ok (.aload_n 0, 1) := by decide +kernel
theorem dX5_isSet_3 : decode cX5_isSet 3 = .ok (.getfield 49, 3) := by decide +kernel
theorem dX5_isSet_6 : decode cX5_isSet 6 = .ok (.iconst 1, 1) := by decide +kernel
theorem dX5_isSet_7 : decode cX5_isSet 7 = .ok (.isub, 1) := by decide +kernel
theorem dX5_isSet_8 : decode cX5_isSet 8 = .ok (.invokestatic 52, 3) := by decide +kernel
theorem dX5_isSet_11 : decode cX5_isSet 11 = .ok (.ireturn, 1) := by decide +kernel
set_option maxRecDepth 20000 in
theorem ggX5_isPlace_X5_in : GoodIn wsX5_isPlace wsX5_in := goodIn_r _ [4] (by decide +kernel) (by decide +kernel)
set_option maxRecDepth 20000 in
theorem gX5_isPlace_X5_in : GoodIn wsX5_isPlace (va_wsS RX5 52 yX5_in wsX5_in) := goodIn_app (goodIn_of _ (by decide +kernel)) ggX5_isPlace_X5_in
theorem dX5_isPlace_0 : decode cX5_isPlace 0 = .ok (.iload_n 0, 1) := by decide +kernel
theorem dX5_isPlace_1 : decode cX5_isPlace 1 = .ok (.iconst 0, 1) := by decide +kernel
theorem dX5_isPlace_2 : decode cX5_isPlace 2 = .ok (.iconst 5, 1) := by decide +kernel
theorem dX5_isPlace_3 : decode cX5_isPlace 3 = .ok (.invokestatic 52, 3) := by decide +kernel
theorem dX5_isPlace_6 : decode cX5_isPlace 6 = .ok (.ireturn, 1) := by decide +kernel
theorem dX5_sizeOf_0 : decode cX5_sizeOf 0 = .ok (.iconst 0, 1) := by decide +kernel
theorem dX5_sizeOf_1 : decode cX5_sizeOf 1 = .ok (.istore_n 1, 1) := by decide +kernel
theorem dX5_sizeOf_2 : decode cX5_sizeOf 2 = .ok (.iconst 0, 1) := by decide +kernel
theorem dX5_sizeOf_3 : decode cX5_sizeOf 3 = .ok (.istore_n 2, 1) := by decide +kernel
theorem dX5_sizeOf_4 : decode cX5_sizeOf 4 = .ok (.iload_n 2, 1) := by decide +kernel
theorem dX5_sizeOf_5 : decode cX5_sizeOf 5 = .ok (.bipush 6, 2) := by decide +kernel
theorem dX5_sizeOf_7 : decode cX5_sizeOf 7 = .ok (.if_icmp .ge 17, 3) := by decide +kernel
theorem dX5_sizeOf_10 : decode cX5_sizeOf 10 = .ok (.iload_n 1, 1) := by decide +kernel
theorem dX5_sizeOf_11 : decode cX5_sizeOf 11 = .ok (.iload_n 0, 1) := by decide +kernel
theorem dX5_sizeOf_12 : decode cX5_sizeOf 12 = .ok (.iload_n 2, 1) := by decide +kernel
theorem dX5_sizeOf_13 : decode cX5_sizeOf 13 = .ok (.ishr, 1) := by decide +kernel
theorem dX5_sizeOf_14 : decode cX5_sizeOf 14 = .ok (.iconst 1, 1) := by decide +kernel
theorem dX5_sizeOf_15 : decode cX5_sizeOf 15 = .ok (.iand, 1) := by decide +kernel
theorem dX5_sizeOf_16 : decode cX5_sizeOf 16 = .ok (.iadd, 1) := by decide +kernel
theorem dX5_sizeOf_17 : decode cX5_sizeOf 17 = .ok (.istore_n 1, 1) := by decide +kernel
theorem dX5_sizeOf_18 : decode cX5_sizeOf 18 = .ok (.iinc 2 1, 3) := by decide +kernel
theorem dX5_sizeOf_21 : decode cX5_sizeOf 21 = .ok (.goto (-17), 3) := by decide +kernel
theorem dX5_sizeOf_24 : decode cX5_sizeOf 24 = .ok (.iload_n 1, 1) := by decide +kernel
theorem dX5_sizeOf_25 : decode cX5_sizeOf 25 = .ok (.ireturn, 1) := by decide +kernel
set_option maxRecDepth 20000 in
theorem ggX5_entry_X5_isPlace : GoodIn wsX5_entry wsX5_isPlace := goodIn_r _ [5, 6, 7, 4, 8] (by decide +kernel) (by decide +kernel)
set_option maxRecDepth 20000 in
theorem gX5_entry_X5_isPlace : GoodIn wsX5_entry (va_wsS RX5 56 yX5_isPlace wsX5_isPlace) := goodIn_app (goodIn_of _ (by decide +kernel)) ggX5_entry_X5_isPlace
set_option maxRecDepth 20000 in
theorem ggX5_entry_X5_isThing : GoodIn wsX5_entry wsX5_isThing := goodIn_r _ [12, 13, 6, 7, 4, 8, 14, 15, 16, 17, 18, 19, 20, 21, 22, 23, 24, 25, 26] (by decide +kernel) (by decide +kernel)
set_option maxRecDepth 20000 in
theorem gX5_entry_X5_isThing : GoodIn wsX5_entry (wsV RX5 60 RX5 yX5_isThing wsX5_isThing) := goodIn_app (goodIn_of _ (by decide +kernel)) ggX5_entry_X5_isThing
set_option maxRecDepth 20000 in
theorem ggX5_entry_X5_in : GoodIn wsX5_entry wsX5_in := goodIn_r _ [8] (by decide +kernel) (by decide +kernel)
set_option maxRecDepth 20000 in
theorem gX5_entry_X5_in : GoodIn wsX5_entry (va_wsS RX5 52 yX5_in wsX5_in) := goodIn_app (goodIn_of _ (by decide +kernel)) ggX5_entry_X5_in
theorem dX5_entry_0 : decode cX5_entry 0 = .ok (.iload_n 1, 1) := by decide +kernel
theorem dX5_entry_1 : decode cX5_entry 1 = .ok (.invokestatic 56, 3) := by decide +kernel
theorem dX5_entry_4 : decode cX5_entry 4 = .ok (.ifCond .eq 30, 3) := by decide +kernel
theorem dX5_entry_7 : decode cX5_entry 7 = .ok (.aload_n 0, 1) := by decide +kernel
theorem dX5_entry_8 : decode cX5_entry 8 = .ok (.iload_n 2, 1) := by decide +kernel
theorem dX5_entry_9 : decode cX5_entry 9 = .ok (.invokevirtual 60, 3) := by decide +kernel
theorem dX5_entry_12 : decode cX5_entry 12 = .ok (.ifCond .eq 22, 3) := by decide +kernel
theorem dX5_entry_15 : decode cX5_entry 15 = .ok (.aload_n 0, 1) := by decide +kernel
theorem dX5_entry_16 : decode cX5_entry 16 = .ok (.iload_n 3, 1) := by decide +kernel
theorem dX5_entry_17 : decode cX5_entry 17 = .ok (.invokevirtual 60, 3) := by decide +kernel
theorem dX5_entry_20 : decode cX5_entry 20 = .ok (.ifCond .eq 14, 3) := by decide +kernel
theorem dX5_entry_23 : decode cX5_entry 23 = .ok (.iload 4, 2) := by decide +kernel
theorem dX5_entry_25 : decode cX5_entry 25 = .ok (.bipush (-5), 2) := by decide +kernel
theorem dX5_entry_27 : decode cX5_entry 27 = .ok (.iconst 5, 1) := by decide +kernel
theorem dX5_entry_28 : decode cX5_entry 28 = .ok (.invokestatic 52, 3) := by decide +kernel
theorem dX5_entry_31 : decode cX5_entry 31 = .ok (.ifCond .ne 5, 3) := by decide +kernel
theorem dX5_entry_34 : decode cX5_entry 34 = .ok (.iconst 0, 1) := by decide +kernel
theorem dX5_entry_35 : decode cX5_entry 35 = .ok (.ireturn, 1) := by decide +kernel
theorem dX5_entry_36 : decode cX5_entry 36 = .ok (.aload_n 0, 1) := by decide +kernel
theorem dX5_entry_37 : decode cX5_entry 37 = .ok (.getfield 7, 3) := by decide +kernel
theorem dX5_entry_40 : decode cX5_entry 40 = .ok (.bipush 36, 2) := by decide +kernel
theorem dX5_entry_42 : decode cX5_entry 42 = .ok (.iload_n 1, 1) := by decide +kernel
theorem dX5_entry_43 : decode cX5_entry 43 = .ok (.imul, 1) := by decide +kernel
theorem dX5_entry_44 : decode cX5_entry 44 = .ok (.bipush 6, 2) := by decide +kernel
theorem dX5_entry_46 : decode cX5_entry 46 = .ok (.iload_n 2, 1) := by decide +kernel
theorem dX5_entry_47 : decode cX5_entry 47 = .ok (.imul, 1) := by decide +kernel
theorem dX5_entry_48 : decode cX5_entry 48 = .ok (.iadd, 1) := by decide +kernel
theorem dX5_entry_49 : decode cX5_entry 49 = .ok (.iload_n 3, 1) := by decide +kernel
theorem dX5_entry_50 : decode cX5_entry 50 = .ok (.iadd, 1) := by decide +kernel
theorem dX5_entry_51 : decode cX5_entry 51 = .ok (.iload 4, 2) := by decide +kernel
theorem dX5_entry_53 : decode cX5_entry 53 = .ok (.iastore, 1) := by decide +kernel
theorem dX5_entry_54 : decode cX5_entry 54 = .ok (.aload_n 0, 1) := by decide +kernel
theorem dX5_entry_55 : decode cX5_entry 55 = .ok (.getfield 7, 3) := by decide +kernel
theorem dX5_entry_58 : decode cX5_entry 58 = .ok (.bipush 36, 2) := by decide +kernel
theorem dX5_entry_60 : decode cX5_entry 60 = .ok (.iload_n 1, 1) := by decide +kernel
theorem dX5_entry_61 : decode cX5_entry 61 = .ok (.imul, 1) := by decide +kernel
theorem dX5_entry_62 : decode cX5_entry 62 = .ok (.bipush 6, 2) := by decide +kernel
theorem dX5_entry_64 : decode cX5_entry 64 = .ok (.iload_n 3, 1) := by decide +kernel
theorem dX5_entry_65 : decode cX5_entry 65 = .ok (.imul, 1) := by decide +kernel
theorem dX5_entry_66 : decode cX5_entry 66 = .ok (.iadd, 1) := by decide +kernel
theorem dX5_entry_67 : decode cX5_entry 67 = .ok (.iload_n 2, 1) := by decide +kernel
theorem dX5_entry_68 : decode cX5_entry 68 = .ok (.iadd, 1) := by decide +kernel
theorem dX5_entry_69 : decode cX5_entry 69 = .ok (.iload 4, 2) := by decide +kernel
theorem dX5_entry_71 : decode cX5_entry 71 = .ok (.iastore, 1) := by decide +kernel
theorem dX5_entry_72 : decode cX5_entry 72 = .ok (.iconst 1, 1) := by decide +kernel
theorem dX5_entry_73 : decode cX5_entry 73 = .ok (.ireturn, 1) := by decide +kernel
set_option maxRecDepth 20000 in
theorem ggX5_told_X5_isPlace : GoodIn wsX5_told wsX5_isPlace := goodIn_r _ [5, 6, 7, 4, 8] (by decide +kernel) (by decide +kernel)
set_option maxRecDepth 20000 in
theorem gX5_told_X5_isPlace : GoodIn wsX5_told (va_wsS RX5 56 yX5_isPlace wsX5_isPlace) := goodIn_app (goodIn_of _ (by decide +kernel)) ggX5_told_X5_isPlace
set_option maxRecDepth 20000 in
theorem ggX5_told_X5_isThing : GoodIn wsX5_told wsX5_isThing := goodIn_r _ [12, 13, 6, 7, 4, 8, 14, 15, 16, 17, 18, 19, 20, 21, 22, 23, 24, 25, 26] (by decide +kernel) (by decide +kernel)
set_option maxRecDepth 20000 in
theorem gX5_told_X5_isThing : GoodIn wsX5_told (wsV RX5 60 RX5 yX5_isThing wsX5_isThing) := goodIn_app (goodIn_of _ (by decide +kernel)) ggX5_told_X5_isThing
theorem dX5_told_0 : decode cX5_told 0 = .ok (.iload_n 1, 1) := by decide +kernel
theorem dX5_told_1 : decode cX5_told 1 = .ok (.invokestatic 56, 3) := by decide +kernel
theorem dX5_told_4 : decode cX5_told 4 = .ok (.ifCond .eq 38, 3) := by decide +kernel
theorem dX5_told_7 : decode cX5_told 7 = .ok (.aload_n 0, 1) := by decide +kernel
theorem dX5_told_8 : decode cX5_told 8 = .ok (.iload_n 2, 1) := by decide +kernel
theorem dX5_told_9 : decode cX5_told 9 = .ok (.invokevirtual 60, 3) := by decide +kernel
theorem dX5_told_12 : decode cX5_told 12 = .ok (.ifCond .eq 30, 3) := by decide +kernel
theorem dX5_told_15 : decode cX5_told 15 = .ok (.aload_n 0, 1) := by decide +kernel
theorem dX5_told_16 : decode cX5_told 16 = .ok (.iload_n 3, 1) := by decide +kernel
theorem dX5_told_17 : decode cX5_told 17 = .ok (.invokevirtual 60, 3) := by decide +kernel
theorem dX5_told_20 : decode cX5_told 20 = .ok (.ifCond .eq 22, 3) := by decide +kernel
theorem dX5_told_23 : decode cX5_told 23 = .ok (.aload_n 0, 1) := by decide +kernel
theorem dX5_told_24 : decode cX5_told 24 = .ok (.getfield 7, 3) := by decide +kernel
theorem dX5_told_27 : decode cX5_told 27 = .ok (.bipush 36, 2) := by decide +kernel
theorem dX5_told_29 : decode cX5_told 29 = .ok (.iload_n 1, 1) := by decide +kernel
theorem dX5_told_30 : decode cX5_told 30 = .ok (.imul, 1) := by decide +kernel
theorem dX5_told_31 : decode cX5_told 31 = .ok (.bipush 6, 2) := by decide +kernel
theorem dX5_told_33 : decode cX5_told 33 = .ok (.iload_n 2, 1) := by decide +kernel
theorem dX5_told_34 : decode cX5_told 34 = .ok (.imul, 1) := by decide +kernel
theorem dX5_told_35 : decode cX5_told 35 = .ok (.iadd, 1) := by decide +kernel
theorem dX5_told_36 : decode cX5_told 36 = .ok (.iload_n 3, 1) := by decide +kernel
theorem dX5_told_37 : decode cX5_told 37 = .ok (.iadd, 1) := by decide +kernel
theorem dX5_told_38 : decode cX5_told 38 = .ok (.iaload, 1) := by decide +kernel
theorem dX5_told_39 : decode cX5_told 39 = .ok (.goto 5, 3) := by decide +kernel
theorem dX5_told_42 : decode cX5_told 42 = .ok (.bipush (-10), 2) := by decide +kernel
theorem dX5_told_44 : decode cX5_told 44 = .ok (.ireturn, 1) := by decide +kernel
set_option maxRecDepth 20000 in
theorem ggX5_determinant_X5_sizeOf : GoodIn wsX5_determinant wsX5_sizeOf := goodIn_r _ [8] (by decide +kernel) (by decide +kernel)
set_option maxRecDepth 20000 in
theorem gX5_determinant_X5_sizeOf : GoodIn wsX5_determinant (va_wsS RX5 63 yX5_sizeOf wsX5_sizeOf) := goodIn_app (goodIn_of _ (by decide +kernel)) ggX5_determinant_X5_sizeOf
theorem dX5_determinant_0 : decode cX5_determinant 0 = .ok (.iconst 0, 1) := by decide +kernel
theorem dX5_determinant_1 : decode cX5_determinant 1 = .ok (.istore 4, 2) := by decide +kernel
theorem dX5_determinant_3 : decode cX5_determinant 3 = .ok (.iconst 0, 1) := by decide +kernel
theorem dX5_determinant_4 : decode cX5_determinant 4 = .ok (.istore 5, 2) := by decide +kernel
theorem dX5_determinant_6 : decode cX5_determinant 6 = .ok (.iload 5, 2) := by decide +kernel
theorem dX5_determinant_8 : decode cX5_determinant 8 = .ok (.aload_n 0, 1) := by decide +kernel
theorem dX5_determinant_9 : decode cX5_determinant 9 = .ok (.getfield 45, 3) := by decide +kernel
theorem dX5_determinant_12 : decode cX5_determinant 12 = .ok (.if_icmp .ge 33, 3) := by decide +kernel
theorem dX5_determinant_15 : decode cX5_determinant 15 = .ok (.iload_n 2, 1) := by decide +kernel
theorem dX5_determinant_16 : decode cX5_determinant 16 = .ok (.iload 5, 2) := by decide +kernel
theorem dX5_determinant_18 : decode cX5_determinant 18 = .ok (.ishr, 1) := by decide +kernel
theorem dX5_determinant_19 : decode cX5_determinant 19 = .ok (.iconst 1, 1) := by decide +kernel
theorem dX5_determinant_20 : decode cX5_determinant 20 = .ok (.iand, 1) := by decide +kernel
theorem dX5_determinant_21 : decode cX5_determinant 21 = .ok (.ifCond .ne 6, 3) := by decide +kernel
theorem dX5_determinant_24 : decode cX5_determinant 24 = .ok (.goto 15, 3) := by decide +kernel
theorem dX5_determinant_27 : decode cX5_determinant 27 = .ok (.aload_n 0, 1) := by decide +kernel
theorem dX5_determinant_28 : decode cX5_determinant 28 = .ok (.getfield 13, 3) := by decide +kernel
theorem dX5_determinant_31 : decode cX5_determinant 31 = .ok (.iload 4, 2) := by decide +kernel
theorem dX5_determinant_33 : decode cX5_determinant 33 = .ok (.iload 5, 2) := by decide +kernel
theorem dX5_determinant_35 : decode cX5_determinant 35 = .ok (.iastore, 1) := by decide +kernel
theorem dX5_determinant_36 : decode cX5_determinant 36 = .ok (.iinc 4 1, 3) := by decide +kernel
theorem dX5_determinant_39 : decode cX5_determinant 39 = .ok (.iinc 5 1, 3) := by decide +kernel
theorem dX5_determinant_42 : decode cX5_determinant 42 = .ok (.goto (-36), 3) := by decide +kernel
theorem dX5_determinant_45 : decode cX5_determinant 45 = .ok (.aload_n 0, 1) := by decide +kernel
theorem dX5_determinant_46 : decode cX5_determinant 46 = .ok (.getfield 16, 3) := by decide +kernel
theorem dX5_determinant_49 : decode cX5_determinant 49 = .ok (.iconst 0, 1) := by decide +kernel
theorem dX5_determinant_50 : decode cX5_determinant 50 = .ok (.lconst 1, 1) := by decide +kernel
theorem dX5_determinant_51 : decode cX5_determinant 51 = .ok (.lastore, 1) := by decide +kernel
theorem dX5_determinant_52 : decode cX5_determinant 52 = .ok (.iconst 1, 1) := by decide +kernel
theorem dX5_determinant_53 : decode cX5_determinant 53 = .ok (.istore 5, 2) := by decide +kernel
theorem dX5_determinant_55 : decode cX5_determinant 55 = .ok (.iload 5, 2) := by decide +kernel
theorem dX5_determinant_57 : decode cX5_determinant 57 = .ok (.iconst 1, 1) := by decide +kernel
theorem dX5_determinant_58 : decode cX5_determinant 58 = .ok (.iload 4, 2) := by decide +kernel
theorem dX5_determinant_60 : decode cX5_determinant 60 = .ok (.ishl, 1) := by decide +kernel
theorem dX5_determinant_61 : decode cX5_determinant 61 = .ok (.if_icmp .ge 160, 3) := by decide +kernel
theorem dX5_determinant_64 : decode cX5_determinant 64 = .ok (.iload 5, 2) := by decide +kernel
theorem dX5_determinant_66 : decode cX5_determinant 66 = .ok (.invokestatic 63, 3) := by decide +kernel
theorem dX5_determinant_69 : decode cX5_determinant 69 = .ok (.iconst 1, 1) := by decide +kernel
theorem dX5_determinant_70 : decode cX5_determinant 70 = .ok (.isub, 1) := by decide +kernel
theorem dX5_determinant_71 : decode cX5_determinant 71 = .ok (.istore 6, 2) := by decide +kernel
theorem dX5_determinant_73 : decode cX5_determinant 73 = .ok (.aload_n 0, 1) := by decide +kernel
theorem dX5_determinant_74 : decode cX5_determinant 74 = .ok (.getfield 16, 3) := by decide +kernel
theorem dX5_determinant_77 : decode cX5_determinant 77 = .ok (.iload 5, 2) := by decide +kernel
theorem dX5_determinant_79 : decode cX5_determinant 79 = .ok (.lconst 0, 1) := by decide +kernel
theorem dX5_determinant_80 : decode cX5_determinant 80 = .ok (.lastore, 1) := by decide +kernel
theorem dX5_determinant_81 : decode cX5_determinant 81 = .ok (.iconst 0, 1) := by decide +kernel
theorem dX5_determinant_82 : decode cX5_determinant 82 = .ok (.istore 7, 2) := by decide +kernel
theorem dX5_determinant_84 : decode cX5_determinant 84 = .ok (.iload 7, 2) := by decide +kernel
theorem dX5_determinant_86 : decode cX5_determinant 86 = .ok (.iload 4, 2) := by decide +kernel
theorem dX5_determinant_88 : decode cX5_determinant 88 = .ok (.if_icmp .ge 127, 3) := by decide +kernel
theorem dX5_determinant_91 : decode cX5_determinant 91 = .ok (.iload 5, 2) := by decide +kernel
theorem dX5_determinant_93 : decode cX5_determinant 93 = .ok (.iload 7, 2) := by decide +kernel
theorem dX5_determinant_95 : decode cX5_determinant 95 = .ok (.ishr, 1) := by decide +kernel
theorem dX5_determinant_96 : decode cX5_determinant 96 = .ok (.iconst 1, 1) := by decide +kernel
theorem dX5_determinant_97 : decode cX5_determinant 97 = .ok (.iand, 1) := by decide +kernel
theorem dX5_determinant_98 : decode cX5_determinant 98 = .ok (.ifCond .ne 6, 3) := by decide +kernel
theorem dX5_determinant_101 : decode cX5_determinant 101 = .ok (.goto 108, 3) := by decide +kernel
theorem dX5_determinant_104 : decode cX5_determinant 104 = .ok (.aload_n 0, 1) := by decide +kernel
theorem dX5_determinant_105 : decode cX5_determinant 105 = .ok (.getfield 7, 3) := by decide +kernel
theorem dX5_determinant_108 : decode cX5_determinant 108 = .ok (.bipush 36, 2) := by decide +kernel
theorem dX5_determinant_110 : decode cX5_determinant 110 = .ok (.iload_n 1, 1) := by decide +kernel
theorem dX5_determinant_111 : decode cX5_determinant 111 = .ok (.imul, 1) := by decide +kernel
theorem dX5_determinant_112 : decode cX5_determinant 112 = .ok (.bipush 6, 2) := by decide +kernel
theorem dX5_determinant_114 : decode cX5_determinant 114 = .ok (.aload_n 0, 1) := by decide +kernel
theorem dX5_determinant_115 : decode cX5_determinant 115 = .ok (.getfield 13, 3) := by decide +kernel
theorem dX5_determinant_118 : decode cX5_determinant 118 = .ok (.iload 6, 2) := by decide +kernel
theorem dX5_determinant_120 : decode cX5_determinant 120 = .ok (.iaload, 1) := by decide +kernel
theorem dX5_determinant_121 : decode cX5_determinant 121 = .ok (.imul, 1) := by decide +kernel
theorem dX5_determinant_122 : decode cX5_determinant 122 = .ok (.iadd, 1) := by decide +kernel
theorem dX5_determinant_123 : decode cX5_determinant 123 = .ok (.aload_n 0, 1) := by decide +kernel
theorem dX5_determinant_124 : decode cX5_determinant 124 = .ok (.getfield 13, 3) := by decide +kernel
theorem dX5_determinant_127 : decode cX5_determinant 127 = .ok (.iload 7, 2) := by decide +kernel
theorem dX5_determinant_129 : decode cX5_determinant 129 = .ok (.iaload, 1) := by decide +kernel
theorem dX5_determinant_130 : decode cX5_determinant 130 = .ok (.iadd, 1) := by decide +kernel
theorem dX5_determinant_131 : decode cX5_determinant 131 = .ok (.iaload, 1) := by decide +kernel
theorem dX5_determinant_132 : decode cX5_determinant 132 = .ok (.iload 6, 2) := by decide +kernel
theorem dX5_determinant_134 : decode cX5_determinant 134 = .ok (.iload 7, 2) := by decide +kernel
theorem dX5_determinant_136 : decode cX5_determinant 136 = .ok (.if_icmp .ne 7, 3) := by decide +kernel
theorem dX5_determinant_139 : decode cX5_determinant 139 = .ok (.iload_n 3, 1) := by decide +kernel
theorem dX5_determinant_140 : decode cX5_determinant 140 = .ok (.goto 4, 3) := by decide +kernel
theorem dX5_determinant_143 : decode cX5_determinant 143 = .ok (.iconst 0, 1) := by decide +kernel
theorem dX5_determinant_144 : decode cX5_determinant 144 = .ok (.iadd, 1) := by decide +kernel
theorem dX5_determinant_145 : decode cX5_determinant 145 = .ok (.i2l, 1) := by decide +kernel
theorem dX5_determinant_146 : decode cX5_determinant 146 = .ok (.lstore 8, 2) := by decide +kernel
theorem dX5_determinant_148 : decode cX5_determinant 148 = .ok (.iload 5, 2) := by decide +kernel
theorem dX5_determinant_150 : decode cX5_determinant 150 = .ok (.iload 7, 2) := by decide +kernel
theorem dX5_determinant_152 : decode cX5_determinant 152 = .ok (.iconst 1, 1) := by decide +kernel
theorem dX5_determinant_153 : decode cX5_determinant 153 = .ok (.iadd, 1) := by decide +kernel
theorem dX5_determinant_154 : decode cX5_determinant 154 = .ok (.ishr, 1) := by decide +kernel
theorem dX5_determinant_155 : decode cX5_determinant 155 = .ok (.invokestatic 63, 3) := by decide +kernel
theorem dX5_determinant_158 : decode cX5_determinant 158 = .ok (.iconst 2, 1) := by decide +kernel
theorem dX5_determinant_159 : decode cX5_determinant 159 = .ok (.irem, 1) := by decide +kernel
theorem dX5_determinant_160 : decode cX5_determinant 160 = .ok (.iconst 1, 1) := by decide +kernel
theorem dX5_determinant_161 : decode cX5_determinant 161 = .ok (.if_icmp .ne 7, 3) := by decide +kernel
theorem dX5_determinant_164 : decode cX5_determinant 164 = .ok (.iconst 1, 1) := by decide +kernel
theorem dX5_determinant_165 : decode cX5_determinant 165 = .ok (.goto 4, 3) := by decide +kernel
theorem dX5_determinant_168 : decode cX5_determinant 168 = .ok (.iconst 0, 1) := by decide +kernel
theorem dX5_determinant_169 : decode cX5_determinant 169 = .ok (.istore 10, 2) := by decide +kernel
theorem dX5_determinant_171 : decode cX5_determinant 171 = .ok (.aload_n 0, 1) := by decide +kernel
theorem dX5_determinant_172 : decode cX5_determinant 172 = .ok (.getfield 16, 3) := by decide +kernel
theorem dX5_determinant_175 : decode cX5_determinant 175 = .ok (.iload 5, 2) := by decide +kernel
theorem dX5_determinant_177 : decode cX5_determinant 177 = .ok (.dup2, 1) := by decide +kernel
theorem dX5_determinant_178 : decode cX5_determinant 178 = .ok (.laload, 1) := by decide +kernel
theorem dX5_determinant_179 : decode cX5_determinant 179 = .ok (.iload 10, 2) := by decide +kernel
theorem dX5_determinant_181 : decode cX5_determinant 181 = .ok (.ifCond .eq 9, 3) := by decide +kernel
theorem dX5_determinant_184 : decode cX5_determinant 184 = .ok (.lload 8, 2) := by decide +kernel
theorem dX5_determinant_186 : decode cX5_determinant 186 = .ok (.lneg, 1) := by decide +kernel
theorem dX5_determinant_187 : decode cX5_determinant 187 = .ok (.goto 5, 3) := by decide +kernel
theorem dX5_determinant_190 : decode cX5_determinant 190 = .ok (.lload 8, 2) := by decide +kernel
theorem dX5_determinant_192 : decode cX5_determinant 192 = .ok (.aload_n 0, 1) := by decide +kernel
theorem dX5_determinant_193 : decode cX5_determinant 193 = .ok (.getfield 16, 3) := by decide +kernel
theorem dX5_determinant_196 : decode cX5_determinant 196 = .ok (.iload 5, 2) := by decide +kernel
theorem dX5_determinant_198 : decode cX5_determinant 198 = .ok (.iconst 1, 1) := by decide +kernel
theorem dX5_determinant_199 : decode cX5_determinant 199 = .ok (.iload 7, 2) := by decide +kernel
theorem dX5_determinant_201 : decode cX5_determinant 201 = .ok (.ishl, 1) := by decide +kernel
theorem dX5_determinant_202 : decode cX5_determinant 202 = .ok (.iconst (-1), 1) := by decide +kernel
theorem dX5_determinant_203 : decode cX5_determinant 203 = .ok (.ixor, 1) := by decide +kernel
theorem dX5_determinant_204 : decode cX5_determinant 204 = .ok (.iand, 1) := by decide +kernel
theorem dX5_determinant_205 : decode cX5_determinant 205 = .ok (.laload, 1) := by decide +kernel
theorem dX5_determinant_206 : decode cX5_determinant 206 = .ok (.lmul, 1) := by decide +kernel
theorem dX5_determinant_207 : decode cX5_determinant 207 = .ok (.ladd, 1) := by decide +kernel
theorem dX5_determinant_208 : decode cX5_determinant 208 = .ok (.lastore, 1) := by decide +kernel
theorem dX5_determinant_209 : decode cX5_determinant 209 = .ok (.iinc 7 1, 3) := by decide +kernel
theorem dX5_determinant_212 : decode cX5_determinant 212 = .ok (.goto (-128), 3) := by decide +kernel
theorem dX5_determinant_215 : decode cX5_determinant 215 = .ok (.iinc 5 1, 3) := by decide +kernel
theorem dX5_determinant_218 : decode cX5_determinant 218 = .ok (.goto (-163), 3) := by decide +kernel
theorem dX5_determinant_221 : decode cX5_determinant 221 = .ok (.aload_n 0, 1) := by decide +kernel
theorem dX5_determinant_222 : decode cX5_determinant 222 = .ok (.getfield 16, 3) := by decide +kernel
theorem dX5_determinant_225 : decode cX5_determinant 225 = .ok (.iconst 1, 1) := by decide +kernel
theorem dX5_determinant_226 : decode cX5_determinant 226 = .ok (.iload 4, 2) := by decide +kernel
theorem dX5_determinant_228 : decode cX5_determinant 228 = .ok (.ishl, 1) := by decide +kernel
theorem dX5_determinant_229 : decode cX5_determinant 229 = .ok (.iconst 1, 1) := by decide +kernel
theorem dX5_determinant_230 : decode cX5_determinant 230 = .ok (.isub, 1) := by decide +kernel
theorem dX5_determinant_231 : decode cX5_determinant 231 = .ok (.laload, 1) := by decide +kernel
theorem dX5_determinant_232 : decode cX5_determinant 232 = .ok (.lreturn, 1) := by decide +kernel
set_option maxRecDepth 20000 in
theorem ggX5_worth_X5_isPlace : GoodIn wsX5_worth wsX5_isPlace := goodIn_r _ [4, 5, 6, 3, 7] (by decide +kernel) (by decide +kernel)
set_option maxRecDepth 20000 in
theorem gX5_worth_X5_isPlace : GoodIn wsX5_worth (va_wsS RX5 56 yX5_isPlace wsX5_isPlace) := goodIn_app (goodIn_of _ (by decide +kernel)) ggX5_worth_X5_isPlace
set_option maxRecDepth 20000 in
theorem ggX5_worth_X5_isSet : GoodIn wsX5_worth wsX5_isSet := goodIn_r _ [11, 12, 5, 6, 3, 7, 24, 25, 26, 27, 28, 29, 30, 31, 32, 33, 34, 35, 36] (by decide +kernel) (by decide +kernel)
set_option maxRecDepth 20000 in
theorem gX5_worth_X5_isSet : GoodIn wsX5_worth (wsV RX5 67 RX5 yX5_isSet wsX5_isSet) := goodIn_app (goodIn_of _ (by decide +kernel)) ggX5_worth_X5_isSet
set_option maxRecDepth 20000 in
theorem ggX5_worth_X5_determinant : GoodIn wsX5_worth wsX5_determinant := goodIn_r _ [16, 17, 18, 19, 20, 21, 22, 3, 23, 24, 25, 26, 27, 28, 29, 30, 31, 32, 33, 34, 35, 36] (by decide +kernel) (by decide +kernel)
set_option maxRecDepth 20000 in
theorem gX5_worth_X5_determinant : GoodIn wsX5_worth (wsV RX5 70 RX5 yX5_determinant wsX5_determinant) := goodIn_app (goodIn_of _ (by decide +kernel)) ggX5_worth_X5_determinant
theorem dX5_worth_0 : decode cX5_worth 0 = .ok (.iload_n 1, 1) := by decide +kernel
theorem dX5_worth_1 : decode cX5_worth 1 = .ok (.invokestatic 56, 3) := by decide +kernel
theorem dX5_worth_4 : decode cX5_worth 4 = .ok (.ifCond .eq 21, 3) := by decide +kernel
theorem dX5_worth_7 : decode cX5_worth 7 = .ok (.aload_n 0, 1) := by decide +kernel
theorem dX5_worth_8 : decode cX5_worth 8 = .ok (.iload_n 2, 1) := by decide +kernel
theorem dX5_worth_9 : decode cX5_worth 9 = .ok (.invokevirtual 67, 3) := by decide +kernel
theorem dX5_worth_12 : decode cX5_worth 12 = .ok (.ifCond .eq 13, 3) := by decide +kernel
theorem dX5_worth_15 : decode cX5_worth 15 = .ok (.aload_n 0, 1) := by decide +kernel
theorem dX5_worth_16 : decode cX5_worth 16 = .ok (.iload_n 1, 1) := by decide +kernel
theorem dX5_worth_17 : decode cX5_worth 17 = .ok (.iload_n 2, 1) := by decide +kernel
theorem dX5_worth_18 : decode cX5_worth 18 = .ok (.iconst 0, 1) := by decide +kernel
theorem dX5_worth_19 : decode cX5_worth 19 = .ok (.invokevirtual 70, 3) := by decide +kernel
theorem dX5_worth_22 : decode cX5_worth 22 = .ok (.goto 4, 3) := by decide +kernel
theorem dX5_worth_25 : decode cX5_worth 25 = .ok (.lconst 0, 1) := by decide +kernel
theorem dX5_worth_26 : decode cX5_worth 26 = .ok (.lreturn, 1) := by decide +kernel
set_option maxRecDepth 20000 in
theorem ggX5_why_X5_isPlace : GoodIn wsX5_why wsX5_isPlace := goodIn_r _ [5, 6, 7, 4, 8] (by decide +kernel) (by decide +kernel)
set_option maxRecDepth 20000 in
theorem gX5_why_X5_isPlace : GoodIn wsX5_why (va_wsS RX5 56 yX5_isPlace wsX5_isPlace) := goodIn_app (goodIn_of _ (by decide +kernel)) ggX5_why_X5_isPlace
set_option maxRecDepth 20000 in
theorem ggX5_why_X5_determinant : GoodIn wsX5_why wsX5_determinant := goodIn_r _ [12, 13, 14, 15, 16, 17, 18, 4, 19, 20, 21, 22, 23, 24, 25, 26, 27, 28, 29, 30, 31, 32] (by decide +kernel) (by decide +kernel)
set_option maxRecDepth 20000 in
theorem gX5_why_X5_determinant : GoodIn wsX5_why (wsV RX5 70 RX5 yX5_determinant wsX5_determinant) := goodIn_app (goodIn_of _ (by decide +kernel)) ggX5_why_X5_determinant
theorem dX5_why_0 : decode cX5_why 0 = .ok (.iconst 0, 1) := by decide +kernel
theorem dX5_why_1 : decode cX5_why 1 = .ok (.istore_n 2, 1) := by decide +kernel
theorem dX5_why_2 : decode cX5_why 2 = .ok (.iload_n 2, 1) := by decide +kernel
theorem dX5_why_3 : decode cX5_why 3 = .ok (.aload_n 0, 1) := by decide +kernel
theorem dX5_why_4 : decode cX5_why 4 = .ok (.getfield 49, 3) := by decide +kernel
theorem dX5_why_7 : decode cX5_why 7 = .ok (.if_icmp .ge 30, 3) := by decide +kernel
theorem dX5_why_10 : decode cX5_why 10 = .ok (.iload_n 1, 1) := by decide +kernel
theorem dX5_why_11 : decode cX5_why 11 = .ok (.invokestatic 56, 3) := by decide +kernel
theorem dX5_why_14 : decode cX5_why 14 = .ok (.ifCond .eq 23, 3) := by decide +kernel
theorem dX5_why_17 : decode cX5_why 17 = .ok (.aload_n 0, 1) := by decide +kernel
theorem dX5_why_18 : decode cX5_why 18 = .ok (.iload_n 1, 1) := by decide +kernel
theorem dX5_why_19 : decode cX5_why 19 = .ok (.iload_n 2, 1) := by decide +kernel
theorem dX5_why_20 : decode cX5_why 20 = .ok (.iconst 0, 1) := by decide +kernel
theorem dX5_why_21 : decode cX5_why 21 = .ok (.invokevirtual 70, 3) := by decide +kernel
theorem dX5_why_24 : decode cX5_why 24 = .ok (.lconst 0, 1) := by decide +kernel
theorem dX5_why_25 : decode cX5_why 25 = .ok (.lcmp, 1) := by decide +kernel
theorem dX5_why_26 : decode cX5_why 26 = .ok (.ifCond .ge 5, 3) := by decide +kernel
theorem dX5_why_29 : decode cX5_why 29 = .ok (.iload_n 2, 1) := by decide +kernel
theorem dX5_why_30 : decode cX5_why 30 = .ok (.ireturn, 1) := by decide +kernel
theorem dX5_why_31 : decode cX5_why 31 = .ok (.iinc 2 1, 3) := by decide +kernel
theorem dX5_why_34 : decode cX5_why 34 = .ok (.goto (-32), 3) := by decide +kernel
theorem dX5_why_37 : decode cX5_why 37 = .ok (.iconst (-1), 1) := by decide +kernel
theorem dX5_why_38 : decode cX5_why 38 = .ok (.ireturn, 1) := by decide +kernel
set_option maxRecDepth 20000 in
theorem ggX5_whole_X5_isPlace : GoodIn wsX5_whole wsX5_isPlace := goodIn_r _ [5, 6, 7, 4, 8] (by decide +kernel) (by decide +kernel)
set_option maxRecDepth 20000 in
theorem gX5_whole_X5_isPlace : GoodIn wsX5_whole (va_wsS RX5 56 yX5_isPlace wsX5_isPlace) := goodIn_app (goodIn_of _ (by decide +kernel)) ggX5_whole_X5_isPlace
set_option maxRecDepth 20000 in
theorem ggX5_whole_X5_determinant : GoodIn wsX5_whole wsX5_determinant := goodIn_r _ [12, 13, 14, 15, 16, 17, 18, 4, 19, 20, 21, 22, 23, 24, 25, 26, 27, 28, 29, 30, 31, 32] (by decide +kernel) (by decide +kernel)
set_option maxRecDepth 20000 in
theorem gX5_whole_X5_determinant : GoodIn wsX5_whole (wsV RX5 70 RX5 yX5_determinant wsX5_determinant) := goodIn_app (goodIn_of _ (by decide +kernel)) ggX5_whole_X5_determinant
theorem dX5_whole_0 : decode cX5_whole 0 = .ok (.iload_n 1, 1) := by decide +kernel
theorem dX5_whole_1 : decode cX5_whole 1 = .ok (.invokestatic 56, 3) := by decide +kernel
theorem dX5_whole_4 : decode cX5_whole 4 = .ok (.ifCond .eq 18, 3) := by decide +kernel
theorem dX5_whole_7 : decode cX5_whole 7 = .ok (.aload_n 0, 1) := by decide +kernel
theorem dX5_whole_8 : decode cX5_whole 8 = .ok (.iload_n 1, 1) := by decide +kernel
theorem dX5_whole_9 : decode cX5_whole 9 = .ok (.aload_n 0, 1) := by decide +kernel
theorem dX5_whole_10 : decode cX5_whole 10 = .ok (.getfield 49, 3) := by decide +kernel
theorem dX5_whole_13 : decode cX5_whole 13 = .ok (.iconst 1, 1) := by decide +kernel
theorem dX5_whole_14 : decode cX5_whole 14 = .ok (.isub, 1) := by decide +kernel
theorem dX5_whole_15 : decode cX5_whole 15 = .ok (.iconst 1, 1) := by decide +kernel
theorem dX5_whole_16 : decode cX5_whole 16 = .ok (.invokevirtual 70, 3) := by decide +kernel
theorem dX5_whole_19 : decode cX5_whole 19 = .ok (.goto 4, 3) := by decide +kernel
theorem dX5_whole_22 : decode cX5_whole 22 = .ok (.lconst 0, 1) := by decide +kernel
theorem dX5_whole_23 : decode cX5_whole 23 = .ok (.lreturn, 1) := by decide +kernel
set_option maxRecDepth 20000 in
theorem ggX5_isLaw_X5_isPlace : GoodIn wsX5_isLaw wsX5_isPlace := goodIn_r _ [5, 6, 7, 4, 8] (by decide +kernel) (by decide +kernel)
set_option maxRecDepth 20000 in
theorem gX5_isLaw_X5_isPlace : GoodIn wsX5_isLaw (va_wsS RX5 56 yX5_isPlace wsX5_isPlace) := goodIn_app (goodIn_of _ (by decide +kernel)) ggX5_isLaw_X5_isPlace
theorem dX5_isLaw_0 : decode cX5_isLaw 0 = .ok (.iload_n 1, 1) := by decide +kernel
theorem dX5_isLaw_1 : decode cX5_isLaw 1 = .ok (.invokestatic 56, 3) := by decide +kernel
theorem dX5_isLaw_4 : decode cX5_isLaw 4 = .ok (.ifCond .eq 16, 3) := by decide +kernel
theorem dX5_isLaw_7 : decode cX5_isLaw 7 = .ok (.aload_n 0, 1) := by decide +kernel
theorem dX5_isLaw_8 : decode cX5_isLaw 8 = .ok (.getfield 29, 3) := by decide +kernel
theorem dX5_isLaw_11 : decode cX5_isLaw 11 = .ok (.iload_n 1, 1) := by decide +kernel
theorem dX5_isLaw_12 : decode cX5_isLaw 12 = .ok (.baload, 1) := by decide +kernel
theorem dX5_isLaw_13 : decode cX5_isLaw 13 = .ok (.ifCond .eq 7, 3) := by decide +kernel
theorem dX5_isLaw_16 : decode cX5_isLaw 16 = .ok (.iconst 1, 1) := by decide +kernel
theorem dX5_isLaw_17 : decode cX5_isLaw 17 = .ok (.goto 4, 3) := by decide +kernel
theorem dX5_isLaw_20 : decode cX5_isLaw 20 = .ok (.iconst 0, 1) := by decide +kernel
theorem dX5_isLaw_21 : decode cX5_isLaw 21 = .ok (.ireturn, 1) := by decide +kernel
theorem dX5_common_0 : decode cX5_common 0 = .ok (.lload_n 0, 1) := by decide +kernel
theorem dX5_common_1 : decode cX5_common 1 = .ok (.lstore 4, 2) := by decide +kernel
theorem dX5_common_3 : decode cX5_common 3 = .ok (.lload_n 2, 1) := by decide +kernel
theorem dX5_common_4 : decode cX5_common 4 = .ok (.lstore 6, 2) := by decide +kernel
theorem dX5_common_6 : decode cX5_common 6 = .ok (.lload 6, 2) := by decide +kernel
theorem dX5_common_8 : decode cX5_common 8 = .ok (.lconst 0, 1) := by decide +kernel
theorem dX5_common_9 : decode cX5_common 9 = .ok (.lcmp, 1) := by decide +kernel
theorem dX5_common_10 : decode cX5_common 10 = .ok (.ifCond .eq 21, 3) := by decide +kernel
theorem dX5_common_13 : decode cX5_common 13 = .ok (.lload 4, 2) := by decide +kernel
theorem dX5_common_15 : decode cX5_common 15 = .ok (.lload 6, 2) := by decide +kernel
theorem dX5_common_17 : decode cX5_common 17 = .ok (.lrem, 1) := by decide +kernel
theorem dX5_common_18 : decode cX5_common 18 = .ok (.lstore 8, 2) := by decide +kernel
theorem dX5_common_20 : decode cX5_common 20 = .ok (.lload 6, 2) := by decide +kernel
theorem dX5_common_22 : decode cX5_common 22 = .ok (.lstore 4, 2) := by decide +kernel
theorem dX5_common_24 : decode cX5_common 24 = .ok (.lload 8, 2) := by decide +kernel
theorem dX5_common_26 : decode cX5_common 26 = .ok (.lstore 6, 2) := by decide +kernel
theorem dX5_common_28 : decode cX5_common 28 = .ok (.goto (-22), 3) := by decide +kernel
theorem dX5_common_31 : decode cX5_common 31 = .ok (.lload 4, 2) := by decide +kernel
theorem dX5_common_33 : decode cX5_common 33 = .ok (.lreturn, 1) := by decide +kernel
theorem dX5_clear_0 : decode cX5_clear 0 = .ok (.iconst 0, 1) := by decide +kernel
theorem dX5_clear_1 : decode cX5_clear 1 = .ok (.istore_n 1, 1) := by decide +kernel
theorem dX5_clear_2 : decode cX5_clear 2 = .ok (.iload_n 1, 1) := by decide +kernel
theorem dX5_clear_3 : decode cX5_clear 3 = .ok (.bipush 64, 2) := by decide +kernel
theorem dX5_clear_5 : decode cX5_clear 5 = .ok (.if_icmp .ge 16, 3) := by decide +kernel
theorem dX5_clear_8 : decode cX5_clear 8 = .ok (.aload_n 0, 1) := by decide +kernel
theorem dX5_clear_9 : decode cX5_clear 9 = .ok (.getfield 23, 3) := by decide +kernel
theorem dX5_clear_12 : decode cX5_clear 12 = .ok (.iload_n 1, 1) := by decide +kernel
theorem dX5_clear_13 : decode cX5_clear 13 = .ok (.lconst 0, 1) := by decide +kernel
theorem dX5_clear_14 : decode cX5_clear 14 = .ok (.lastore, 1) := by decide +kernel
theorem dX5_clear_15 : decode cX5_clear 15 = .ok (.iinc 1 1, 3) := by decide +kernel
theorem dX5_clear_18 : decode cX5_clear 18 = .ok (.goto (-16), 3) := by decide +kernel
theorem dX5_clear_21 : decode cX5_clear 21 = .ok (.return_, 1) := by decide +kernel
set_option maxRecDepth 20000 in
theorem ggX5_makes_X5_common : GoodIn wsX5_makes wsX5_common := goodIn_r _ [9] (by decide +kernel) (by decide +kernel)
set_option maxRecDepth 20000 in
theorem gX5_makes_X5_common : GoodIn wsX5_makes (va_wsS RX5 74 yX5_common wsX5_common) := goodIn_app (goodIn_of _ (by decide +kernel)) ggX5_makes_X5_common
theorem dX5_makes_0 : decode cX5_makes 0 = .ok (.lconst 0, 1) := by decide +kernel
theorem dX5_makes_1 : decode cX5_makes 1 = .ok (.lstore_n 2, 1) := by decide +kernel
theorem dX5_makes_2 : decode cX5_makes 2 = .ok (.iconst 0, 1) := by decide +kernel
theorem dX5_makes_3 : decode cX5_makes 3 = .ok (.istore 4, 2) := by decide +kernel
theorem dX5_makes_5 : decode cX5_makes 5 = .ok (.iload 4, 2) := by decide +kernel
theorem dX5_makes_7 : decode cX5_makes 7 = .ok (.aload_n 0, 1) := by decide +kernel
theorem dX5_makes_8 : decode cX5_makes 8 = .ok (.getfield 49, 3) := by decide +kernel
theorem dX5_makes_11 : decode cX5_makes 11 = .ok (.if_icmp .ge 21, 3) := by decide +kernel
theorem dX5_makes_14 : decode cX5_makes 14 = .ok (.aload_n 0, 1) := by decide +kernel
theorem dX5_makes_15 : decode cX5_makes 15 = .ok (.getfield 23, 3) := by decide +kernel
theorem dX5_makes_18 : decode cX5_makes 18 = .ok (.iload 4, 2) := by decide +kernel
theorem dX5_makes_20 : decode cX5_makes 20 = .ok (.laload, 1) := by decide +kernel
theorem dX5_makes_21 : decode cX5_makes 21 = .ok (.lload_n 2, 1) := by decide +kernel
theorem dX5_makes_22 : decode cX5_makes 22 = .ok (.invokestatic 74, 3) := by decide +kernel
theorem dX5_makes_25 : decode cX5_makes 25 = .ok (.lstore_n 2, 1) := by decide +kernel
theorem dX5_makes_26 : decode cX5_makes 26 = .ok (.iinc 4 1, 3) := by decide +kernel
theorem dX5_makes_29 : decode cX5_makes 29 = .ok (.goto (-24), 3) := by decide +kernel
theorem dX5_makes_32 : decode cX5_makes 32 = .ok (.lload_n 2, 1) := by decide +kernel
theorem dX5_makes_33 : decode cX5_makes 33 = .ok (.lconst 0, 1) := by decide +kernel
theorem dX5_makes_34 : decode cX5_makes 34 = .ok (.lcmp, 1) := by decide +kernel
theorem dX5_makes_35 : decode cX5_makes 35 = .ok (.ifCond .ne 5, 3) := by decide +kernel
theorem dX5_makes_38 : decode cX5_makes 38 = .ok (.iconst 0, 1) := by decide +kernel
theorem dX5_makes_39 : decode cX5_makes 39 = .ok (.ireturn, 1) := by decide +kernel
theorem dX5_makes_40 : decode cX5_makes 40 = .ok (.iconst 0, 1) := by decide +kernel
theorem dX5_makes_41 : decode cX5_makes 41 = .ok (.istore 4, 2) := by decide +kernel
theorem dX5_makes_43 : decode cX5_makes 43 = .ok (.iload 4, 2) := by decide +kernel
theorem dX5_makes_45 : decode cX5_makes 45 = .ok (.aload_n 0, 1) := by decide +kernel
theorem dX5_makes_46 : decode cX5_makes 46 = .ok (.getfield 49, 3) := by decide +kernel
theorem dX5_makes_49 : decode cX5_makes 49 = .ok (.if_icmp .ge 27, 3) := by decide +kernel
theorem dX5_makes_52 : decode cX5_makes 52 = .ok (.aload_n 0, 1) := by decide +kernel
theorem dX5_makes_53 : decode cX5_makes 53 = .ok (.getfield 23, 3) := by decide +kernel
theorem dX5_makes_56 : decode cX5_makes 56 = .ok (.iload 4, 2) := by decide +kernel
theorem dX5_makes_58 : decode cX5_makes 58 = .ok (.laload, 1) := by decide +kernel
theorem dX5_makes_59 : decode cX5_makes 59 = .ok (.lload_n 2, 1) := by decide +kernel
theorem dX5_makes_60 : decode cX5_makes 60 = .ok (.ldiv, 1) := by decide +kernel
theorem dX5_makes_61 : decode cX5_makes 61 = .ok (.ldc2_w 78, 3) := by decide +kernel
theorem dX5_makes_64 : decode cX5_makes 64 = .ok (.lcmp, 1) := by decide +kernel
theorem dX5_makes_65 : decode cX5_makes 65 = .ok (.ifCond .le 5, 3) := by decide +kernel
theorem dX5_makes_68 : decode cX5_makes 68 = .ok (.iconst 0, 1) := by decide +kernel
theorem dX5_makes_69 : decode cX5_makes 69 = .ok (.ireturn, 1) := by decide +kernel
theorem dX5_makes_70 : decode cX5_makes 70 = .ok (.iinc 4 1, 3) := by decide +kernel
theorem dX5_makes_73 : decode cX5_makes 73 = .ok (.goto (-30), 3) := by decide +kernel
theorem dX5_makes_76 : decode cX5_makes 76 = .ok (.iconst 0, 1) := by decide +kernel
theorem dX5_makes_77 : decode cX5_makes 77 = .ok (.istore 4, 2) := by decide +kernel
theorem dX5_makes_79 : decode cX5_makes 79 = .ok (.iload 4, 2) := by decide +kernel
theorem dX5_makes_81 : decode cX5_makes 81 = .ok (.aload_n 0, 1) := by decide +kernel
theorem dX5_makes_82 : decode cX5_makes 82 = .ok (.getfield 49, 3) := by decide +kernel
theorem dX5_makes_85 : decode cX5_makes 85 = .ok (.if_icmp .ge 30, 3) := by decide +kernel
theorem dX5_makes_88 : decode cX5_makes 88 = .ok (.aload_n 0, 1) := by decide +kernel
theorem dX5_makes_89 : decode cX5_makes 89 = .ok (.getfield 20, 3) := by decide +kernel
theorem dX5_makes_92 : decode cX5_makes 92 = .ok (.bipush 64, 2) := by decide +kernel
theorem dX5_makes_94 : decode cX5_makes 94 = .ok (.iload_n 1, 1) := by decide +kernel
theorem dX5_makes_95 : decode cX5_makes 95 = .ok (.imul, 1) := by decide +kernel
theorem dX5_makes_96 : decode cX5_makes 96 = .ok (.iload 4, 2) := by decide +kernel
theorem dX5_makes_98 : decode cX5_makes 98 = .ok (.iadd, 1) := by decide +kernel
theorem dX5_makes_99 : decode cX5_makes 99 = .ok (.aload_n 0, 1) := by decide +kernel
theorem dX5_makes_100 : decode cX5_makes 100 = .ok (.getfield 23, 3) := by decide +kernel
theorem dX5_makes_103 : decode cX5_makes 103 = .ok (.iload 4, 2) := by decide +kernel
theorem dX5_makes_105 : decode cX5_makes 105 = .ok (.laload, 1) := by decide +kernel
theorem dX5_makes_106 : decode cX5_makes 106 = .ok (.lload_n 2, 1) := by decide +kernel
theorem dX5_makes_107 : decode cX5_makes 107 = .ok (.ldiv, 1) := by decide +kernel
theorem dX5_makes_108 : decode cX5_makes 108 = .ok (.lastore, 1) := by decide +kernel
theorem dX5_makes_109 : decode cX5_makes 109 = .ok (.iinc 4 1, 3) := by decide +kernel
theorem dX5_makes_112 : decode cX5_makes 112 = .ok (.goto (-33), 3) := by decide +kernel
theorem dX5_makes_115 : decode cX5_makes 115 = .ok (.aload_n 0, 1) := by decide +kernel
theorem dX5_makes_116 : decode cX5_makes 116 = .ok (.getfield 29, 3) := by decide +kernel
theorem dX5_makes_119 : decode cX5_makes 119 = .ok (.iload_n 1, 1) := by decide +kernel
theorem dX5_makes_120 : decode cX5_makes 120 = .ok (.iconst 1, 1) := by decide +kernel
theorem dX5_makes_121 : decode cX5_makes 121 = .ok (.bastore, 1) := by decide +kernel
theorem dX5_makes_122 : decode cX5_makes 122 = .ok (.iconst 1, 1) := by decide +kernel
theorem dX5_makes_123 : decode cX5_makes 123 = .ok (.ireturn, 1) := by decide +kernel
set_option maxRecDepth 20000 in
theorem ggX5_shun_X5_isPlace : GoodIn wsX5_shun wsX5_isPlace := goodIn_r _ [6, 7, 8, 5, 9] (by decide +kernel) (by decide +kernel)
set_option maxRecDepth 20000 in
theorem gX5_shun_X5_isPlace : GoodIn wsX5_shun (va_wsS RX5 56 yX5_isPlace wsX5_isPlace) := goodIn_app (goodIn_of _ (by decide +kernel)) ggX5_shun_X5_isPlace
set_option maxRecDepth 20000 in
theorem ggX5_shun_X5_why : GoodIn wsX5_shun wsX5_why := goodIn_r _ [13, 1, 3, 4, 5, 6, 7, 8, 9, 14, 15, 16, 17, 18, 19, 20, 21, 22, 23, 24, 39, 40, 41, 42, 43, 44, 45, 46, 47, 48, 49, 50, 51] (by decide +kernel) (by decide +kernel)
set_option maxRecDepth 20000 in
theorem gX5_shun_X5_why : GoodIn wsX5_shun (wsV RX5 80 RX5 yX5_why wsX5_why) := goodIn_app (goodIn_of _ (by decide +kernel)) ggX5_shun_X5_why
set_option maxRecDepth 20000 in
theorem ggX5_shun_X5_clear : GoodIn wsX5_shun wsX5_clear := goodIn_r _ [28, 2, 39, 40, 41, 42, 43, 44, 45, 46, 47, 48, 49, 50, 51] (by decide +kernel) (by decide +kernel)
set_option maxRecDepth 20000 in
theorem gX5_shun_X5_clear : GoodIn wsX5_shun (wsV RX5 83 RX5 yX5_clear wsX5_clear) := goodIn_app (goodIn_of _ (by decide +kernel)) ggX5_shun_X5_clear
set_option maxRecDepth 20000 in
theorem ggX5_shun_X5_determinant : GoodIn wsX5_shun wsX5_determinant := goodIn_r _ [17, 18, 19, 20, 21, 22, 23, 5, 24, 39, 40, 41, 42, 43, 44, 45, 46, 47, 48, 49, 50, 51] (by decide +kernel) (by decide +kernel)
set_option maxRecDepth 20000 in
theorem gX5_shun_X5_determinant : GoodIn wsX5_shun (wsV RX5 70 RX5 yX5_determinant wsX5_determinant) := goodIn_app (goodIn_of _ (by decide +kernel)) ggX5_shun_X5_determinant
set_option maxRecDepth 20000 in
theorem ggX5_shun_X5_makes : GoodIn wsX5_shun wsX5_makes := goodIn_r _ [32, 1, 2, 33, 34, 35, 36, 37, 5, 38, 39, 40, 41, 42, 43, 44, 45, 46, 47, 48, 49, 50, 51] (by decide +kernel) (by decide +kernel)
set_option maxRecDepth 20000 in
theorem gX5_shun_X5_makes : GoodIn wsX5_shun (wsV RX5 86 RX5 yX5_makes wsX5_makes) := goodIn_app (goodIn_of _ (by decide +kernel)) ggX5_shun_X5_makes
theorem dX5_shun_0 : decode cX5_shun 0 = .ok (.iload_n 1, 1) := by decide +kernel
theorem dX5_shun_1 : decode cX5_shun 1 = .ok (.invokestatic 56, 3) := by decide +kernel
theorem dX5_shun_4 : decode cX5_shun 4 = .ok (.ifCond .eq 18, 3) := by decide +kernel
theorem dX5_shun_7 : decode cX5_shun 7 = .ok (.iload_n 2, 1) := by decide +kernel
theorem dX5_shun_8 : decode cX5_shun 8 = .ok (.invokestatic 56, 3) := by decide +kernel
theorem dX5_shun_11 : decode cX5_shun 11 = .ok (.ifCond .eq 11, 3) := by decide +kernel
theorem dX5_shun_14 : decode cX5_shun 14 = .ok (.aload_n 0, 1) := by decide +kernel
theorem dX5_shun_15 : decode cX5_shun 15 = .ok (.iload_n 1, 1) := by decide +kernel
theorem dX5_shun_16 : decode cX5_shun 16 = .ok (.invokevirtual 80, 3) := by decide +kernel
theorem dX5_shun_19 : decode cX5_shun 19 = .ok (.ifCond .lt 5, 3) := by decide +kernel
theorem dX5_shun_22 : decode cX5_shun 22 = .ok (.iconst 0, 1) := by decide +kernel
theorem dX5_shun_23 : decode cX5_shun 23 = .ok (.ireturn, 1) := by decide +kernel
theorem dX5_shun_24 : decode cX5_shun 24 = .ok (.aload_n 0, 1) := by decide +kernel
theorem dX5_shun_25 : decode cX5_shun 25 = .ok (.invokevirtual 83, 3) := by decide +kernel
theorem dX5_shun_28 : decode cX5_shun 28 = .ok (.iconst 0, 1) := by decide +kernel
theorem dX5_shun_29 : decode cX5_shun 29 = .ok (.istore_n 3, 1) := by decide +kernel
theorem dX5_shun_30 : decode cX5_shun 30 = .ok (.iload_n 3, 1) := by decide +kernel
theorem dX5_shun_31 : decode cX5_shun 31 = .ok (.aload_n 0, 1) := by decide +kernel
theorem dX5_shun_32 : decode cX5_shun 32 = .ok (.getfield 49, 3) := by decide +kernel
theorem dX5_shun_35 : decode cX5_shun 35 = .ok (.if_icmp .ge 22, 3) := by decide +kernel
theorem dX5_shun_38 : decode cX5_shun 38 = .ok (.aload_n 0, 1) := by decide +kernel
theorem dX5_shun_39 : decode cX5_shun 39 = .ok (.getfield 23, 3) := by decide +kernel
theorem dX5_shun_42 : decode cX5_shun 42 = .ok (.iload_n 3, 1) := by decide +kernel
theorem dX5_shun_43 : decode cX5_shun 43 = .ok (.aload_n 0, 1) := by decide +kernel
theorem dX5_shun_44 : decode cX5_shun 44 = .ok (.iload_n 1, 1) := by decide +kernel
theorem dX5_shun_45 : decode cX5_shun 45 = .ok (.iload_n 3, 1) := by decide +kernel
theorem dX5_shun_46 : decode cX5_shun 46 = .ok (.iconst 0, 1) := by decide +kernel
theorem dX5_shun_47 : decode cX5_shun 47 = .ok (.invokevirtual 70, 3) := by decide +kernel
theorem dX5_shun_50 : decode cX5_shun 50 = .ok (.lastore, 1) := by decide +kernel
theorem dX5_shun_51 : decode cX5_shun 51 = .ok (.iinc 3 1, 3) := by decide +kernel
theorem dX5_shun_54 : decode cX5_shun 54 = .ok (.goto (-24), 3) := by decide +kernel
theorem dX5_shun_57 : decode cX5_shun 57 = .ok (.aload_n 0, 1) := by decide +kernel
theorem dX5_shun_58 : decode cX5_shun 58 = .ok (.iload_n 2, 1) := by decide +kernel
theorem dX5_shun_59 : decode cX5_shun 59 = .ok (.invokevirtual 86, 3) := by decide +kernel
theorem dX5_shun_62 : decode cX5_shun 62 = .ok (.ireturn, 1) := by decide +kernel
set_option maxRecDepth 20000 in
theorem ggX5_edge_X5_isThing : GoodIn wsX5_edge wsX5_isThing := goodIn_r _ [8, 9, 10, 11, 7, 12, 13, 14, 15, 16, 17, 18, 19, 20, 21, 22, 23, 24, 25] (by decide +kernel) (by decide +kernel)
set_option maxRecDepth 20000 in
theorem gX5_edge_X5_isThing : GoodIn wsX5_edge (wsV RX5 60 RX5 yX5_isThing wsX5_isThing) := goodIn_app (goodIn_of _ (by decide +kernel)) ggX5_edge_X5_isThing
set_option maxRecDepth 20000 in
theorem ggX5_edge_X5_in : GoodIn wsX5_edge wsX5_in := goodIn_r _ [12] (by decide +kernel) (by decide +kernel)
set_option maxRecDepth 20000 in
theorem gX5_edge_X5_in : GoodIn wsX5_edge (va_wsS RX5 52 yX5_in wsX5_in) := goodIn_app (goodIn_of _ (by decide +kernel)) ggX5_edge_X5_in
theorem dX5_edge_0 : decode cX5_edge 0 = .ok (.aload_n 0, 1) := by decide +kernel
theorem dX5_edge_1 : decode cX5_edge 1 = .ok (.iload_n 1, 1) := by decide +kernel
theorem dX5_edge_2 : decode cX5_edge 2 = .ok (.invokevirtual 60, 3) := by decide +kernel
theorem dX5_edge_5 : decode cX5_edge 5 = .ok (.ifCond .eq 32, 3) := by decide +kernel
theorem dX5_edge_8 : decode cX5_edge 8 = .ok (.iload_n 2, 1) := by decide +kernel
theorem dX5_edge_9 : decode cX5_edge 9 = .ok (.iconst 0, 1) := by decide +kernel
theorem dX5_edge_10 : decode cX5_edge 10 = .ok (.iconst 4, 1) := by decide +kernel
theorem dX5_edge_11 : decode cX5_edge 11 = .ok (.invokestatic 52, 3) := by decide +kernel
theorem dX5_edge_14 : decode cX5_edge 14 = .ok (.ifCond .eq 23, 3) := by decide +kernel
theorem dX5_edge_17 : decode cX5_edge 17 = .ok (.iload_n 3, 1) := by decide +kernel
theorem dX5_edge_18 : decode cX5_edge 18 = .ok (.iconst 0, 1) := by decide +kernel
theorem dX5_edge_19 : decode cX5_edge 19 = .ok (.iconst 4, 1) := by decide +kernel
theorem dX5_edge_20 : decode cX5_edge 20 = .ok (.invokestatic 52, 3) := by decide +kernel
theorem dX5_edge_23 : decode cX5_edge 23 = .ok (.ifCond .eq 14, 3) := by decide +kernel
theorem dX5_edge_26 : decode cX5_edge 26 = .ok (.iload 4, 2) := by decide +kernel
theorem dX5_edge_28 : decode cX5_edge 28 = .ok (.iconst 0, 1) := by decide +kernel
theorem dX5_edge_29 : decode cX5_edge 29 = .ok (.bipush 9, 2) := by decide +kernel
theorem dX5_edge_31 : decode cX5_edge 31 = .ok (.invokestatic 52, 3) := by decide +kernel
theorem dX5_edge_34 : decode cX5_edge 34 = .ok (.ifCond .ne 5, 3) := by decide +kernel
theorem dX5_edge_37 : decode cX5_edge 37 = .ok (.iconst 0, 1) := by decide +kernel
theorem dX5_edge_38 : decode cX5_edge 38 = .ok (.ireturn, 1) := by decide +kernel
theorem dX5_edge_39 : decode cX5_edge 39 = .ok (.aload_n 0, 1) := by decide +kernel
theorem dX5_edge_40 : decode cX5_edge 40 = .ok (.getfield 33, 3) := by decide +kernel
theorem dX5_edge_43 : decode cX5_edge 43 = .ok (.iload_n 1, 1) := by decide +kernel
theorem dX5_edge_44 : decode cX5_edge 44 = .ok (.iload_n 2, 1) := by decide +kernel
theorem dX5_edge_45 : decode cX5_edge 45 = .ok (.iastore, 1) := by decide +kernel
theorem dX5_edge_46 : decode cX5_edge 46 = .ok (.aload_n 0, 1) := by decide +kernel
theorem dX5_edge_47 : decode cX5_edge 47 = .ok (.getfield 36, 3) := by decide +kernel
theorem dX5_edge_50 : decode cX5_edge 50 = .ok (.iload_n 1, 1) := by decide +kernel
theorem dX5_edge_51 : decode cX5_edge 51 = .ok (.iload_n 3, 1) := by decide +kernel
theorem dX5_edge_52 : decode cX5_edge 52 = .ok (.iastore, 1) := by decide +kernel
theorem dX5_edge_53 : decode cX5_edge 53 = .ok (.aload_n 0, 1) := by decide +kernel
theorem dX5_edge_54 : decode cX5_edge 54 = .ok (.getfield 39, 3) := by decide +kernel
theorem dX5_edge_57 : decode cX5_edge 57 = .ok (.iload_n 1, 1) := by decide +kernel
theorem dX5_edge_58 : decode cX5_edge 58 = .ok (.iload 4, 2) := by decide +kernel
theorem dX5_edge_60 : decode cX5_edge 60 = .ok (.iastore, 1) := by decide +kernel
theorem dX5_edge_61 : decode cX5_edge 61 = .ok (.iconst 1, 1) := by decide +kernel
theorem dX5_edge_62 : decode cX5_edge 62 = .ok (.ireturn, 1) := by decide +kernel
set_option maxRecDepth 20000 in
theorem ggX5_treeOf_X5_sizeOf : GoodIn wsX5_treeOf wsX5_sizeOf := goodIn_r _ [9] (by decide +kernel) (by decide +kernel)
set_option maxRecDepth 20000 in
theorem gX5_treeOf_X5_sizeOf : GoodIn wsX5_treeOf (va_wsS RX5 63 yX5_sizeOf wsX5_sizeOf) := goodIn_app (goodIn_of _ (by decide +kernel)) ggX5_treeOf_X5_sizeOf
theorem dX5_treeOf_0 : decode cX5_treeOf 0 = .ok (.iload_n 1, 1) := by decide +kernel
theorem dX5_treeOf_1 : decode cX5_treeOf 1 = .ok (.invokestatic 63, 3) := by decide +kernel
theorem dX5_treeOf_4 : decode cX5_treeOf 4 = .ok (.iload_n 2, 1) := by decide +kernel
theorem dX5_treeOf_5 : decode cX5_treeOf 5 = .ok (.iconst 1, 1) := by decide +kernel
theorem dX5_treeOf_6 : decode cX5_treeOf 6 = .ok (.isub, 1) := by decide +kernel
theorem dX5_treeOf_7 : decode cX5_treeOf 7 = .ok (.if_icmp .eq 5, 3) := by decide +kernel
theorem dX5_treeOf_10 : decode cX5_treeOf 10 = .ok (.lconst 0, 1) := by decide +kernel
theorem dX5_treeOf_11 : decode cX5_treeOf 11 = .ok (.lreturn, 1) := by decide +kernel
theorem dX5_treeOf_12 : decode cX5_treeOf 12 = .ok (.iconst 0, 1) := by decide +kernel
theorem dX5_treeOf_13 : decode cX5_treeOf 13 = .ok (.istore_n 3, 1) := by decide +kernel
theorem dX5_treeOf_14 : decode cX5_treeOf 14 = .ok (.iload_n 3, 1) := by decide +kernel
theorem dX5_treeOf_15 : decode cX5_treeOf 15 = .ok (.iconst 5, 1) := by decide +kernel
theorem dX5_treeOf_16 : decode cX5_treeOf 16 = .ok (.if_icmp .ge 16, 3) := by decide +kernel
theorem dX5_treeOf_19 : decode cX5_treeOf 19 = .ok (.aload_n 0, 1) := by decide +kernel
theorem dX5_treeOf_20 : decode cX5_treeOf 20 = .ok (.getfield 42, 3) := by decide +kernel
theorem dX5_treeOf_23 : decode cX5_treeOf 23 = .ok (.iload_n 3, 1) := by decide +kernel
theorem dX5_treeOf_24 : decode cX5_treeOf 24 = .ok (.iload_n 3, 1) := by decide +kernel
theorem dX5_treeOf_25 : decode cX5_treeOf 25 = .ok (.iastore, 1) := by decide +kernel
theorem dX5_treeOf_26 : decode cX5_treeOf 26 = .ok (.iinc 3 1, 3) := by decide +kernel
theorem dX5_treeOf_29 : decode cX5_treeOf 29 = .ok (.goto (-15), 3) := by decide +kernel
theorem dX5_treeOf_32 : decode cX5_treeOf 32 = .ok (.lconst 1, 1) := by decide +kernel
theorem dX5_treeOf_33 : decode cX5_treeOf 33 = .ok (.lstore_n 3, 1) := by decide +kernel
theorem dX5_treeOf_34 : decode cX5_treeOf 34 = .ok (.iconst 0, 1) := by decide +kernel
theorem dX5_treeOf_35 : decode cX5_treeOf 35 = .ok (.istore 5, 2) := by decide +kernel
theorem dX5_treeOf_37 : decode cX5_treeOf 37 = .ok (.iload 5, 2) := by decide +kernel
theorem dX5_treeOf_39 : decode cX5_treeOf 39 = .ok (.aload_n 0, 1) := by decide +kernel
theorem dX5_treeOf_40 : decode cX5_treeOf 40 = .ok (.getfield 45, 3) := by decide +kernel
theorem dX5_treeOf_43 : decode cX5_treeOf 43 = .ok (.if_icmp .ge 135, 3) := by decide +kernel
theorem dX5_treeOf_46 : decode cX5_treeOf 46 = .ok (.iload_n 1, 1) := by decide +kernel
theorem dX5_treeOf_47 : decode cX5_treeOf 47 = .ok (.iload 5, 2) := by decide +kernel
theorem dX5_treeOf_49 : decode cX5_treeOf 49 = .ok (.ishr, 1) := by decide +kernel
theorem dX5_treeOf_50 : decode cX5_treeOf 50 = .ok (.iconst 1, 1) := by decide +kernel
theorem dX5_treeOf_51 : decode cX5_treeOf 51 = .ok (.iand, 1) := by decide +kernel
theorem dX5_treeOf_52 : decode cX5_treeOf 52 = .ok (.ifCond .ne 6, 3) := by decide +kernel
theorem dX5_treeOf_55 : decode cX5_treeOf 55 = .ok (.goto 117, 3) := by decide +kernel
theorem dX5_treeOf_58 : decode cX5_treeOf 58 = .ok (.aload_n 0, 1) := by decide +kernel
theorem dX5_treeOf_59 : decode cX5_treeOf 59 = .ok (.getfield 33, 3) := by decide +kernel
theorem dX5_treeOf_62 : decode cX5_treeOf 62 = .ok (.iload 5, 2) := by decide +kernel
theorem dX5_treeOf_64 : decode cX5_treeOf 64 = .ok (.iaload, 1) := by decide +kernel
theorem dX5_treeOf_65 : decode cX5_treeOf 65 = .ok (.istore 6, 2) := by decide +kernel
theorem dX5_treeOf_67 : decode cX5_treeOf 67 = .ok (.aload_n 0, 1) := by decide +kernel
theorem dX5_treeOf_68 : decode cX5_treeOf 68 = .ok (.getfield 36, 3) := by decide +kernel
theorem dX5_treeOf_71 : decode cX5_treeOf 71 = .ok (.iload 5, 2) := by decide +kernel
theorem dX5_treeOf_73 : decode cX5_treeOf 73 = .ok (.iaload, 1) := by decide +kernel
theorem dX5_treeOf_74 : decode cX5_treeOf 74 = .ok (.istore 7, 2) := by decide +kernel
theorem dX5_treeOf_76 : decode cX5_treeOf 76 = .ok (.iload 6, 2) := by decide +kernel
theorem dX5_treeOf_78 : decode cX5_treeOf 78 = .ok (.iload_n 2, 1) := by decide +kernel
theorem dX5_treeOf_79 : decode cX5_treeOf 79 = .ok (.if_icmp .ge 26, 3) := by decide +kernel
theorem dX5_treeOf_82 : decode cX5_treeOf 82 = .ok (.iload 7, 2) := by decide +kernel
theorem dX5_treeOf_84 : decode cX5_treeOf 84 = .ok (.iload_n 2, 1) := by decide +kernel
theorem dX5_treeOf_85 : decode cX5_treeOf 85 = .ok (.if_icmp .ge 20, 3) := by decide +kernel
theorem dX5_treeOf_88 : decode cX5_treeOf 88 = .ok (.aload_n 0, 1) := by decide +kernel
theorem dX5_treeOf_89 : decode cX5_treeOf 89 = .ok (.getfield 42, 3) := by decide +kernel
theorem dX5_treeOf_92 : decode cX5_treeOf 92 = .ok (.iload 6, 2) := by decide +kernel
theorem dX5_treeOf_94 : decode cX5_treeOf 94 = .ok (.iaload, 1) := by decide +kernel
theorem dX5_treeOf_95 : decode cX5_treeOf 95 = .ok (.aload_n 0, 1) := by decide +kernel
theorem dX5_treeOf_96 : decode cX5_treeOf 96 = .ok (.getfield 42, 3) := by decide +kernel
theorem dX5_treeOf_99 : decode cX5_treeOf 99 = .ok (.iload 7, 2) := by decide +kernel
theorem dX5_treeOf_101 : decode cX5_treeOf 101 = .ok (.iaload, 1) := by decide +kernel
theorem dX5_treeOf_102 : decode cX5_treeOf 102 = .ok (.if_icmp .ne 5, 3) := by decide +kernel
theorem dX5_treeOf_105 : decode cX5_treeOf 105 = .ok (.lconst 0, 1) := by decide +kernel
theorem dX5_treeOf_106 : decode cX5_treeOf 106 = .ok (.lreturn, 1) := by decide +kernel
theorem dX5_treeOf_107 : decode cX5_treeOf 107 = .ok (.aload_n 0, 1) := by decide +kernel
theorem dX5_treeOf_108 : decode cX5_treeOf 108 = .ok (.getfield 42, 3) := by decide +kernel
theorem dX5_treeOf_111 : decode cX5_treeOf 111 = .ok (.iload 7, 2) := by decide +kernel
theorem dX5_treeOf_113 : decode cX5_treeOf 113 = .ok (.iaload, 1) := by decide +kernel
theorem dX5_treeOf_114 : decode cX5_treeOf 114 = .ok (.istore 8, 2) := by decide +kernel
theorem dX5_treeOf_116 : decode cX5_treeOf 116 = .ok (.aload_n 0, 1) := by decide +kernel
theorem dX5_treeOf_117 : decode cX5_treeOf 117 = .ok (.getfield 42, 3) := by decide +kernel
theorem dX5_treeOf_120 : decode cX5_treeOf 120 = .ok (.iload 6, 2) := by decide +kernel
theorem dX5_treeOf_122 : decode cX5_treeOf 122 = .ok (.iaload, 1) := by decide +kernel
theorem dX5_treeOf_123 : decode cX5_treeOf 123 = .ok (.istore 9, 2) := by decide +kernel
theorem dX5_treeOf_125 : decode cX5_treeOf 125 = .ok (.iconst 0, 1) := by decide +kernel
theorem dX5_treeOf_126 : decode cX5_treeOf 126 = .ok (.istore 10, 2) := by decide +kernel
theorem dX5_treeOf_128 : decode cX5_treeOf 128 = .ok (.iload 10, 2) := by decide +kernel
theorem dX5_treeOf_130 : decode cX5_treeOf 130 = .ok (.iconst 5, 1) := by decide +kernel
theorem dX5_treeOf_131 : decode cX5_treeOf 131 = .ok (.if_icmp .ge 30, 3) := by decide +kernel
theorem dX5_treeOf_134 : decode cX5_treeOf 134 = .ok (.aload_n 0, 1) := by decide +kernel
theorem dX5_treeOf_135 : decode cX5_treeOf 135 = .ok (.getfield 42, 3) := by decide +kernel
theorem dX5_treeOf_138 : decode cX5_treeOf 138 = .ok (.iload 10, 2) := by decide +kernel
theorem dX5_treeOf_140 : decode cX5_treeOf 140 = .ok (.iaload, 1) := by decide +kernel
theorem dX5_treeOf_141 : decode cX5_treeOf 141 = .ok (.iload 8, 2) := by decide +kernel
theorem dX5_treeOf_143 : decode cX5_treeOf 143 = .ok (.if_icmp .ne 12, 3) := by decide +kernel
theorem dX5_treeOf_146 : decode cX5_treeOf 146 = .ok (.aload_n 0, 1) := by decide +kernel
theorem dX5_treeOf_147 : decode cX5_treeOf 147 = .ok (.getfield 42, 3) := by decide +kernel
theorem dX5_treeOf_150 : decode cX5_treeOf 150 = .ok (.iload 10, 2) := by decide +kernel
theorem dX5_treeOf_152 : decode cX5_treeOf 152 = .ok (.iload 9, 2) := by decide +kernel
theorem dX5_treeOf_154 : decode cX5_treeOf 154 = .ok (.iastore, 1) := by decide +kernel
theorem dX5_treeOf_155 : decode cX5_treeOf 155 = .ok (.iinc 10 1, 3) := by decide +kernel
theorem dX5_treeOf_158 : decode cX5_treeOf 158 = .ok (.goto (-30), 3) := by decide +kernel
theorem dX5_treeOf_161 : decode cX5_treeOf 161 = .ok (.lload_n 3, 1) := by decide +kernel
theorem dX5_treeOf_162 : decode cX5_treeOf 162 = .ok (.aload_n 0, 1) := by decide +kernel
theorem dX5_treeOf_163 : decode cX5_treeOf 163 = .ok (.getfield 39, 3) := by decide +kernel
theorem dX5_treeOf_166 : decode cX5_treeOf 166 = .ok (.iload 5, 2) := by decide +kernel
theorem dX5_treeOf_168 : decode cX5_treeOf 168 = .ok (.iaload, 1) := by decide +kernel
theorem dX5_treeOf_169 : decode cX5_treeOf 169 = .ok (.i2l, 1) := by decide +kernel
theorem dX5_treeOf_170 : decode cX5_treeOf 170 = .ok (.lmul, 1) := by decide +kernel
theorem dX5_treeOf_171 : decode cX5_treeOf 171 = .ok (.lstore_n 3, 1) := by decide +kernel
theorem dX5_treeOf_172 : decode cX5_treeOf 172 = .ok (.iinc 5 1, 3) := by decide +kernel
theorem dX5_treeOf_175 : decode cX5_treeOf 175 = .ok (.goto (-138), 3) := by decide +kernel
theorem dX5_treeOf_178 : decode cX5_treeOf 178 = .ok (.lload_n 3, 1) := by decide +kernel
theorem dX5_treeOf_179 : decode cX5_treeOf 179 = .ok (.lreturn, 1) := by decide +kernel
set_option maxRecDepth 20000 in
theorem ggX5_all_X5_in : GoodIn wsX5_all wsX5_in := goodIn_r _ [5] (by decide +kernel) (by decide +kernel)
set_option maxRecDepth 20000 in
theorem gX5_all_X5_in : GoodIn wsX5_all (va_wsS RX5 52 yX5_in wsX5_in) := goodIn_app (goodIn_of _ (by decide +kernel)) ggX5_all_X5_in
set_option maxRecDepth 20000 in
theorem ggX5_all_X5_treeOf : GoodIn wsX5_all wsX5_treeOf := goodIn_r _ [9, 10, 11, 12, 13, 14, 15, 16, 4, 17, 18, 19, 20, 21, 22, 23, 24, 25, 26, 27, 28, 29, 30] (by decide +kernel) (by decide +kernel)
set_option maxRecDepth 20000 in
theorem gX5_all_X5_treeOf : GoodIn wsX5_all (wsV RX5 89 RX5 yX5_treeOf wsX5_treeOf) := goodIn_app (goodIn_of _ (by decide +kernel)) ggX5_all_X5_treeOf
theorem dX5_all_0 : decode cX5_all 0 = .ok (.lconst 0, 1) := by decide +kernel
theorem dX5_all_1 : decode cX5_all 1 = .ok (.lstore_n 2, 1) := by decide +kernel
theorem dX5_all_2 : decode cX5_all 2 = .ok (.iconst 0, 1) := by decide +kernel
theorem dX5_all_3 : decode cX5_all 3 = .ok (.istore 4, 2) := by decide +kernel
theorem dX5_all_5 : decode cX5_all 5 = .ok (.iload 4, 2) := by decide +kernel
theorem dX5_all_7 : decode cX5_all 7 = .ok (.aload_n 0, 1) := by decide +kernel
theorem dX5_all_8 : decode cX5_all 8 = .ok (.getfield 49, 3) := by decide +kernel
theorem dX5_all_11 : decode cX5_all 11 = .ok (.if_icmp .ge 28, 3) := by decide +kernel
theorem dX5_all_14 : decode cX5_all 14 = .ok (.iload_n 1, 1) := by decide +kernel
theorem dX5_all_15 : decode cX5_all 15 = .ok (.iconst 2, 1) := by decide +kernel
theorem dX5_all_16 : decode cX5_all 16 = .ok (.iconst 5, 1) := by decide +kernel
theorem dX5_all_17 : decode cX5_all 17 = .ok (.invokestatic 52, 3) := by decide +kernel
theorem dX5_all_20 : decode cX5_all 20 = .ok (.ifCond .eq 19, 3) := by decide +kernel
theorem dX5_all_23 : decode cX5_all 23 = .ok (.lload_n 2, 1) := by decide +kernel
theorem dX5_all_24 : decode cX5_all 24 = .ok (.aload_n 0, 1) := by decide +kernel
theorem dX5_all_25 : decode cX5_all 25 = .ok (.iload 4, 2) := by decide +kernel
theorem dX5_all_27 : decode cX5_all 27 = .ok (.iload_n 1, 1) := by decide +kernel
theorem dX5_all_28 : decode cX5_all 28 = .ok (.invokevirtual 89, 3) := by decide +kernel
theorem dX5_all_31 : decode cX5_all 31 = .ok (.ladd, 1) := by decide +kernel
theorem dX5_all_32 : decode cX5_all 32 = .ok (.lstore_n 2, 1) := by decide +kernel
theorem dX5_all_33 : decode cX5_all 33 = .ok (.iinc 4 1, 3) := by decide +kernel
theorem dX5_all_36 : decode cX5_all 36 = .ok (.goto (-31), 3) := by decide +kernel
theorem dX5_all_39 : decode cX5_all 39 = .ok (.lload_n 2, 1) := by decide +kernel
theorem dX5_all_40 : decode cX5_all 40 = .ok (.lreturn, 1) := by decide +kernel
set_option maxRecDepth 20000 in
theorem ggX5_trees_X5_in : GoodIn wsX5_trees wsX5_in := goodIn_r _ [6] (by decide +kernel) (by decide +kernel)
set_option maxRecDepth 20000 in
theorem gX5_trees_X5_in : GoodIn wsX5_trees (va_wsS RX5 52 yX5_in wsX5_in) := goodIn_app (goodIn_of _ (by decide +kernel)) ggX5_trees_X5_in
set_option maxRecDepth 20000 in
theorem ggX5_trees_X5_isPlace : GoodIn wsX5_trees wsX5_isPlace := goodIn_r _ [9, 3, 4, 5, 6] (by decide +kernel) (by decide +kernel)
set_option maxRecDepth 20000 in
theorem gX5_trees_X5_isPlace : GoodIn wsX5_trees (va_wsS RX5 56 yX5_isPlace wsX5_isPlace) := goodIn_app (goodIn_of _ (by decide +kernel)) ggX5_trees_X5_isPlace
set_option maxRecDepth 20000 in
theorem ggX5_trees_X5_clear : GoodIn wsX5_trees wsX5_clear := goodIn_r _ [13, 2, 36, 37, 38, 39, 40, 41, 42, 43, 44, 45, 46, 47, 48] (by decide +kernel) (by decide +kernel)
set_option maxRecDepth 20000 in
theorem gX5_trees_X5_clear : GoodIn wsX5_trees (wsV RX5 83 RX5 yX5_clear wsX5_clear) := goodIn_app (goodIn_of _ (by decide +kernel)) ggX5_trees_X5_clear
set_option maxRecDepth 20000 in
theorem ggX5_trees_X5_treeOf : GoodIn wsX5_trees wsX5_treeOf := goodIn_r _ [17, 18, 19, 20, 21, 22, 23, 24, 5, 25, 36, 37, 38, 39, 40, 41, 42, 43, 44, 45, 46, 47, 48] (by decide +kernel) (by decide +kernel)
set_option maxRecDepth 20000 in
theorem gX5_trees_X5_treeOf : GoodIn wsX5_trees (wsV RX5 89 RX5 yX5_treeOf wsX5_treeOf) := goodIn_app (goodIn_of _ (by decide +kernel)) ggX5_trees_X5_treeOf
set_option maxRecDepth 20000 in
theorem ggX5_trees_X5_makes : GoodIn wsX5_trees wsX5_makes := goodIn_r _ [29, 1, 2, 30, 31, 32, 33, 34, 5, 35, 36, 37, 38, 39, 40, 41, 42, 43, 44, 45, 46, 47, 48] (by decide +kernel) (by decide +kernel)
set_option maxRecDepth 20000 in
theorem gX5_trees_X5_makes : GoodIn wsX5_trees (wsV RX5 86 RX5 yX5_makes wsX5_makes) := goodIn_app (goodIn_of _ (by decide +kernel)) ggX5_trees_X5_makes
theorem dX5_trees_0 : decode cX5_trees 0 = .ok (.iload_n 1, 1) := by decide +kernel
theorem dX5_trees_1 : decode cX5_trees 1 = .ok (.iconst 2, 1) := by decide +kernel
theorem dX5_trees_2 : decode cX5_trees 2 = .ok (.iconst 5, 1) := by decide +kernel
theorem dX5_trees_3 : decode cX5_trees 3 = .ok (.invokestatic 52, 3) := by decide +kernel
theorem dX5_trees_6 : decode cX5_trees 6 = .ok (.ifCond .eq 10, 3) := by decide +kernel
theorem dX5_trees_9 : decode cX5_trees 9 = .ok (.iload_n 2, 1) := by decide +kernel
theorem dX5_trees_10 : decode cX5_trees 10 = .ok (.invokestatic 56, 3) := by decide +kernel
theorem dX5_trees_13 : decode cX5_trees 13 = .ok (.ifCond .ne 5, 3) := by decide +kernel
theorem dX5_trees_16 : decode cX5_trees 16 = .ok (.iconst 0, 1) := by decide +kernel
theorem dX5_trees_17 : decode cX5_trees 17 = .ok (.ireturn, 1) := by decide +kernel
theorem dX5_trees_18 : decode cX5_trees 18 = .ok (.aload_n 0, 1) := by decide +kernel
theorem dX5_trees_19 : decode cX5_trees 19 = .ok (.invokevirtual 83, 3) := by decide +kernel
theorem dX5_trees_22 : decode cX5_trees 22 = .ok (.iconst 0, 1) := by decide +kernel
theorem dX5_trees_23 : decode cX5_trees 23 = .ok (.istore_n 3, 1) := by decide +kernel
theorem dX5_trees_24 : decode cX5_trees 24 = .ok (.iload_n 3, 1) := by decide +kernel
theorem dX5_trees_25 : decode cX5_trees 25 = .ok (.aload_n 0, 1) := by decide +kernel
theorem dX5_trees_26 : decode cX5_trees 26 = .ok (.getfield 49, 3) := by decide +kernel
theorem dX5_trees_29 : decode cX5_trees 29 = .ok (.if_icmp .ge 21, 3) := by decide +kernel
theorem dX5_trees_32 : decode cX5_trees 32 = .ok (.aload_n 0, 1) := by decide +kernel
theorem dX5_trees_33 : decode cX5_trees 33 = .ok (.getfield 23, 3) := by decide +kernel
theorem dX5_trees_36 : decode cX5_trees 36 = .ok (.iload_n 3, 1) := by decide +kernel
theorem dX5_trees_37 : decode cX5_trees 37 = .ok (.aload_n 0, 1) := by decide +kernel
theorem dX5_trees_38 : decode cX5_trees 38 = .ok (.iload_n 3, 1) := by decide +kernel
theorem dX5_trees_39 : decode cX5_trees 39 = .ok (.iload_n 1, 1) := by decide +kernel
theorem dX5_trees_40 : decode cX5_trees 40 = .ok (.invokevirtual 89, 3) := by decide +kernel
theorem dX5_trees_43 : decode cX5_trees 43 = .ok (.lastore, 1) := by decide +kernel
theorem dX5_trees_44 : decode cX5_trees 44 = .ok (.iinc 3 1, 3) := by decide +kernel
theorem dX5_trees_47 : decode cX5_trees 47 = .ok (.goto (-23), 3) := by decide +kernel
theorem dX5_trees_50 : decode cX5_trees 50 = .ok (.aload_n 0, 1) := by decide +kernel
theorem dX5_trees_51 : decode cX5_trees 51 = .ok (.iload_n 2, 1) := by decide +kernel
theorem dX5_trees_52 : decode cX5_trees 52 = .ok (.invokevirtual 86, 3) := by decide +kernel
theorem dX5_trees_55 : decode cX5_trees 55 = .ok (.ireturn, 1) := by decide +kernel
set_option maxRecDepth 20000 in
theorem ggX5_tell_X5_isSet : GoodIn wsX5_tell wsX5_isSet := goodIn_r _ [7, 8, 9, 10, 6, 11, 12, 13, 14, 15, 16, 17, 18, 19, 20, 21, 22, 23, 24] (by decide +kernel) (by decide +kernel)
set_option maxRecDepth 20000 in
theorem gX5_tell_X5_isSet : GoodIn wsX5_tell (wsV RX5 67 RX5 yX5_isSet wsX5_isSet) := goodIn_app (goodIn_of _ (by decide +kernel)) ggX5_tell_X5_isSet
set_option maxRecDepth 20000 in
theorem ggX5_tell_X5_in : GoodIn wsX5_tell wsX5_in := goodIn_r _ [11] (by decide +kernel) (by decide +kernel)
set_option maxRecDepth 20000 in
theorem gX5_tell_X5_in : GoodIn wsX5_tell (va_wsS RX5 52 yX5_in wsX5_in) := goodIn_app (goodIn_of _ (by decide +kernel)) ggX5_tell_X5_in
theorem dX5_tell_0 : decode cX5_tell 0 = .ok (.aload_n 0, 1) := by decide +kernel
theorem dX5_tell_1 : decode cX5_tell 1 = .ok (.iload_n 1, 1) := by decide +kernel
theorem dX5_tell_2 : decode cX5_tell 2 = .ok (.invokevirtual 67, 3) := by decide +kernel
theorem dX5_tell_5 : decode cX5_tell 5 = .ok (.ifCond .eq 13, 3) := by decide +kernel
theorem dX5_tell_8 : decode cX5_tell 8 = .ok (.iload_n 2, 1) := by decide +kernel
theorem dX5_tell_9 : decode cX5_tell 9 = .ok (.iconst 0, 1) := by decide +kernel
theorem dX5_tell_10 : decode cX5_tell 10 = .ok (.ldc 93, 2) := by decide +kernel
theorem dX5_tell_12 : decode cX5_tell 12 = .ok (.invokestatic 52, 3) := by decide +kernel
theorem dX5_tell_15 : decode cX5_tell 15 = .ok (.ifCond .ne 5, 3) := by decide +kernel
theorem dX5_tell_18 : decode cX5_tell 18 = .ok (.iconst 0, 1) := by decide +kernel
theorem dX5_tell_19 : decode cX5_tell 19 = .ok (.ireturn, 1) := by decide +kernel
theorem dX5_tell_20 : decode cX5_tell 20 = .ok (.aload_n 0, 1) := by decide +kernel
theorem dX5_tell_21 : decode cX5_tell 21 = .ok (.getfield 26, 3) := by decide +kernel
theorem dX5_tell_24 : decode cX5_tell 24 = .ok (.iload_n 1, 1) := by decide +kernel
theorem dX5_tell_25 : decode cX5_tell 25 = .ok (.iload_n 2, 1) := by decide +kernel
theorem dX5_tell_26 : decode cX5_tell 26 = .ok (.i2l, 1) := by decide +kernel
theorem dX5_tell_27 : decode cX5_tell 27 = .ok (.lastore, 1) := by decide +kernel
theorem dX5_tell_28 : decode cX5_tell 28 = .ok (.iconst 1, 1) := by decide +kernel
theorem dX5_tell_29 : decode cX5_tell 29 = .ok (.ireturn, 1) := by decide +kernel
set_option maxRecDepth 20000 in
theorem ggX5_hand_X5_isPlace : GoodIn wsX5_hand wsX5_isPlace := goodIn_r _ [7, 8, 9, 6, 10] (by decide +kernel) (by decide +kernel)
set_option maxRecDepth 20000 in
theorem gX5_hand_X5_isPlace : GoodIn wsX5_hand (va_wsS RX5 56 yX5_isPlace wsX5_isPlace) := goodIn_app (goodIn_of _ (by decide +kernel)) ggX5_hand_X5_isPlace
set_option maxRecDepth 20000 in
theorem ggX5_hand_X5_clear : GoodIn wsX5_hand wsX5_clear := goodIn_r _ [14, 2, 25, 26, 27, 28, 29, 30, 31, 32, 33, 34, 35, 36, 37] (by decide +kernel) (by decide +kernel)
set_option maxRecDepth 20000 in
theorem gX5_hand_X5_clear : GoodIn wsX5_hand (wsV RX5 83 RX5 yX5_clear wsX5_clear) := goodIn_app (goodIn_of _ (by decide +kernel)) ggX5_hand_X5_clear
set_option maxRecDepth 20000 in
theorem ggX5_hand_X5_makes : GoodIn wsX5_hand wsX5_makes := goodIn_r _ [18, 1, 2, 19, 20, 21, 22, 23, 6, 24, 25, 26, 27, 28, 29, 30, 31, 32, 33, 34, 35, 36, 37] (by decide +kernel) (by decide +kernel)
set_option maxRecDepth 20000 in
theorem gX5_hand_X5_makes : GoodIn wsX5_hand (wsV RX5 86 RX5 yX5_makes wsX5_makes) := goodIn_app (goodIn_of _ (by decide +kernel)) ggX5_hand_X5_makes
theorem dX5_hand_0 : decode cX5_hand 0 = .ok (.iload_n 1, 1) := by decide +kernel
theorem dX5_hand_1 : decode cX5_hand 1 = .ok (.invokestatic 56, 3) := by decide +kernel
theorem dX5_hand_4 : decode cX5_hand 4 = .ok (.ifCond .ne 5, 3) := by decide +kernel
theorem dX5_hand_7 : decode cX5_hand 7 = .ok (.iconst 0, 1) := by decide +kernel
theorem dX5_hand_8 : decode cX5_hand 8 = .ok (.ireturn, 1) := by decide +kernel
theorem dX5_hand_9 : decode cX5_hand 9 = .ok (.aload_n 0, 1) := by decide +kernel
theorem dX5_hand_10 : decode cX5_hand 10 = .ok (.invokevirtual 83, 3) := by decide +kernel
theorem dX5_hand_13 : decode cX5_hand 13 = .ok (.iconst 0, 1) := by decide +kernel
theorem dX5_hand_14 : decode cX5_hand 14 = .ok (.istore_n 2, 1) := by decide +kernel
theorem dX5_hand_15 : decode cX5_hand 15 = .ok (.iload_n 2, 1) := by decide +kernel
theorem dX5_hand_16 : decode cX5_hand 16 = .ok (.aload_n 0, 1) := by decide +kernel
theorem dX5_hand_17 : decode cX5_hand 17 = .ok (.getfield 49, 3) := by decide +kernel
theorem dX5_hand_20 : decode cX5_hand 20 = .ok (.if_icmp .ge 21, 3) := by decide +kernel
theorem dX5_hand_23 : decode cX5_hand 23 = .ok (.aload_n 0, 1) := by decide +kernel
theorem dX5_hand_24 : decode cX5_hand 24 = .ok (.getfield 23, 3) := by decide +kernel
theorem dX5_hand_27 : decode cX5_hand 27 = .ok (.iload_n 2, 1) := by decide +kernel
theorem dX5_hand_28 : decode cX5_hand 28 = .ok (.aload_n 0, 1) := by decide +kernel
theorem dX5_hand_29 : decode cX5_hand 29 = .ok (.getfield 26, 3) := by decide +kernel
theorem dX5_hand_32 : decode cX5_hand 32 = .ok (.iload_n 2, 1) := by decide +kernel
theorem dX5_hand_33 : decode cX5_hand 33 = .ok (.laload, 1) := by decide +kernel
theorem dX5_hand_34 : decode cX5_hand 34 = .ok (.lastore, 1) := by decide +kernel
theorem dX5_hand_35 : decode cX5_hand 35 = .ok (.iinc 2 1, 3) := by decide +kernel
theorem dX5_hand_38 : decode cX5_hand 38 = .ok (.goto (-23), 3) := by decide +kernel
theorem dX5_hand_41 : decode cX5_hand 41 = .ok (.aload_n 0, 1) := by decide +kernel
theorem dX5_hand_42 : decode cX5_hand 42 = .ok (.iload_n 1, 1) := by decide +kernel
theorem dX5_hand_43 : decode cX5_hand 43 = .ok (.invokevirtual 86, 3) := by decide +kernel
theorem dX5_hand_46 : decode cX5_hand 46 = .ok (.ireturn, 1) := by decide +kernel
set_option maxRecDepth 20000 in
theorem ggX5_given_X5_isLaw : GoodIn wsX5_given wsX5_isLaw := goodIn_r _ [8, 9, 10, 11, 7, 12, 13, 14, 15, 32, 33, 34, 35, 36, 37, 38, 39, 40, 41, 42, 43, 44] (by decide +kernel) (by decide +kernel)
set_option maxRecDepth 20000 in
theorem gX5_given_X5_isLaw : GoodIn wsX5_given (wsV RX5 94 RX5 yX5_isLaw wsX5_isLaw) := goodIn_app (goodIn_of _ (by decide +kernel)) ggX5_given_X5_isLaw
set_option maxRecDepth 20000 in
theorem ggX5_given_X5_isSet : GoodIn wsX5_given wsX5_isSet := goodIn_r _ [19, 1, 13, 14, 7, 15, 32, 33, 34, 35, 36, 37, 38, 39, 40, 41, 42, 43, 44] (by decide +kernel) (by decide +kernel)
set_option maxRecDepth 20000 in
theorem gX5_given_X5_isSet : GoodIn wsX5_given (wsV RX5 67 RX5 yX5_isSet wsX5_isSet) := goodIn_app (goodIn_of _ (by decide +kernel)) ggX5_given_X5_isSet
set_option maxRecDepth 20000 in
theorem ggX5_given_X5_isPlace : GoodIn wsX5_given wsX5_isPlace := goodIn_r _ [12, 13, 14, 7, 15] (by decide +kernel) (by decide +kernel)
set_option maxRecDepth 20000 in
theorem gX5_given_X5_isPlace : GoodIn wsX5_given (va_wsS RX5 56 yX5_isPlace wsX5_isPlace) := goodIn_app (goodIn_of _ (by decide +kernel)) ggX5_given_X5_isPlace
set_option maxRecDepth 20000 in
theorem ggX5_given_X5_clear : GoodIn wsX5_given wsX5_clear := goodIn_r _ [23, 2, 32, 33, 34, 35, 36, 37, 38, 39, 40, 41, 42, 43, 44] (by decide +kernel) (by decide +kernel)
set_option maxRecDepth 20000 in
theorem gX5_given_X5_clear : GoodIn wsX5_given (wsV RX5 83 RX5 yX5_clear wsX5_clear) := goodIn_app (goodIn_of _ (by decide +kernel)) ggX5_given_X5_clear
set_option maxRecDepth 20000 in
theorem ggX5_given_X5_makes : GoodIn wsX5_given wsX5_makes := goodIn_r _ [27, 1, 2, 28, 3, 9, 29, 30, 7, 31, 32, 33, 34, 35, 36, 37, 38, 39, 40, 41, 42, 43, 44] (by decide +kernel) (by decide +kernel)
set_option maxRecDepth 20000 in
theorem gX5_given_X5_makes : GoodIn wsX5_given (wsV RX5 86 RX5 yX5_makes wsX5_makes) := goodIn_app (goodIn_of _ (by decide +kernel)) ggX5_given_X5_makes
theorem dX5_given_0 : decode cX5_given 0 = .ok (.aload_n 0, 1) := by decide +kernel
theorem dX5_given_1 : decode cX5_given 1 = .ok (.iload_n 1, 1) := by decide +kernel
theorem dX5_given_2 : decode cX5_given 2 = .ok (.invokevirtual 94, 3) := by decide +kernel
theorem dX5_given_5 : decode cX5_given 5 = .ok (.ifCond .eq 27, 3) := by decide +kernel
theorem dX5_given_8 : decode cX5_given 8 = .ok (.aload_n 0, 1) := by decide +kernel
theorem dX5_given_9 : decode cX5_given 9 = .ok (.iload_n 2, 1) := by decide +kernel
theorem dX5_given_10 : decode cX5_given 10 = .ok (.invokevirtual 67, 3) := by decide +kernel
theorem dX5_given_13 : decode cX5_given 13 = .ok (.ifCond .eq 19, 3) := by decide +kernel
theorem dX5_given_16 : decode cX5_given 16 = .ok (.aload_n 0, 1) := by decide +kernel
theorem dX5_given_17 : decode cX5_given 17 = .ok (.iload_n 3, 1) := by decide +kernel
theorem dX5_given_18 : decode cX5_given 18 = .ok (.invokevirtual 67, 3) := by decide +kernel
theorem dX5_given_21 : decode cX5_given 21 = .ok (.ifCond .eq 11, 3) := by decide +kernel
theorem dX5_given_24 : decode cX5_given 24 = .ok (.iload 4, 2) := by decide +kernel
theorem dX5_given_26 : decode cX5_given 26 = .ok (.invokestatic 56, 3) := by decide +kernel
theorem dX5_given_29 : decode cX5_given 29 = .ok (.ifCond .ne 5, 3) := by decide +kernel
theorem dX5_given_32 : decode cX5_given 32 = .ok (.iconst 0, 1) := by decide +kernel
theorem dX5_given_33 : decode cX5_given 33 = .ok (.ireturn, 1) := by decide +kernel
theorem dX5_given_34 : decode cX5_given 34 = .ok (.aload_n 0, 1) := by decide +kernel
theorem dX5_given_35 : decode cX5_given 35 = .ok (.invokevirtual 83, 3) := by decide +kernel
theorem dX5_given_38 : decode cX5_given 38 = .ok (.iconst 0, 1) := by decide +kernel
theorem dX5_given_39 : decode cX5_given 39 = .ok (.istore 5, 2) := by decide +kernel
theorem dX5_given_41 : decode cX5_given 41 = .ok (.iload 5, 2) := by decide +kernel
theorem dX5_given_43 : decode cX5_given 43 = .ok (.aload_n 0, 1) := by decide +kernel
theorem dX5_given_44 : decode cX5_given 44 = .ok (.getfield 49, 3) := by decide +kernel
theorem dX5_given_47 : decode cX5_given 47 = .ok (.if_icmp .ge 43, 3) := by decide +kernel
theorem dX5_given_50 : decode cX5_given 50 = .ok (.iload 5, 2) := by decide +kernel
theorem dX5_given_52 : decode cX5_given 52 = .ok (.iload_n 2, 1) := by decide +kernel
theorem dX5_given_53 : decode cX5_given 53 = .ok (.iand, 1) := by decide +kernel
theorem dX5_given_54 : decode cX5_given 54 = .ok (.iload_n 2, 1) := by decide +kernel
theorem dX5_given_55 : decode cX5_given 55 = .ok (.if_icmp .ne 29, 3) := by decide +kernel
theorem dX5_given_58 : decode cX5_given 58 = .ok (.iload 5, 2) := by decide +kernel
theorem dX5_given_60 : decode cX5_given 60 = .ok (.iload_n 3, 1) := by decide +kernel
theorem dX5_given_61 : decode cX5_given 61 = .ok (.iand, 1) := by decide +kernel
theorem dX5_given_62 : decode cX5_given 62 = .ok (.ifCond .ne 22, 3) := by decide +kernel
theorem dX5_given_65 : decode cX5_given 65 = .ok (.aload_n 0, 1) := by decide +kernel
theorem dX5_given_66 : decode cX5_given 66 = .ok (.getfield 23, 3) := by decide +kernel
theorem dX5_given_69 : decode cX5_given 69 = .ok (.iload 5, 2) := by decide +kernel
theorem dX5_given_71 : decode cX5_given 71 = .ok (.aload_n 0, 1) := by decide +kernel
theorem dX5_given_72 : decode cX5_given 72 = .ok (.getfield 20, 3) := by decide +kernel
theorem dX5_given_75 : decode cX5_given 75 = .ok (.bipush 64, 2) := by decide +kernel
theorem dX5_given_77 : decode cX5_given 77 = .ok (.iload_n 1, 1) := by decide +kernel
theorem dX5_given_78 : decode cX5_given 78 = .ok (.imul, 1) := by decide +kernel
theorem dX5_given_79 : decode cX5_given 79 = .ok (.iload 5, 2) := by decide +kernel
theorem dX5_given_81 : decode cX5_given 81 = .ok (.iadd, 1) := by decide +kernel
theorem dX5_given_82 : decode cX5_given 82 = .ok (.laload, 1) := by decide +kernel
theorem dX5_given_83 : decode cX5_given 83 = .ok (.lastore, 1) := by decide +kernel
theorem dX5_given_84 : decode cX5_given 84 = .ok (.iinc 5 1, 3) := by decide +kernel
theorem dX5_given_87 : decode cX5_given 87 = .ok (.goto (-46), 3) := by decide +kernel
theorem dX5_given_90 : decode cX5_given 90 = .ok (.aload_n 0, 1) := by decide +kernel
theorem dX5_given_91 : decode cX5_given 91 = .ok (.iload 4, 2) := by decide +kernel
theorem dX5_given_93 : decode cX5_given 93 = .ok (.invokevirtual 86, 3) := by decide +kernel
theorem dX5_given_96 : decode cX5_given 96 = .ok (.ireturn, 1) := by decide +kernel
set_option maxRecDepth 20000 in
theorem ggX5_canBe_X5_isLaw : GoodIn wsX5_canBe wsX5_isLaw := goodIn_r _ [5, 6, 7, 8, 4, 9, 10, 11, 12, 18, 19, 20, 21, 22, 23, 24, 25, 26, 27, 28, 29, 30] (by decide +kernel) (by decide +kernel)
set_option maxRecDepth 20000 in
theorem gX5_canBe_X5_isLaw : GoodIn wsX5_canBe (wsV RX5 94 RX5 yX5_isLaw wsX5_isLaw) := goodIn_app (goodIn_of _ (by decide +kernel)) ggX5_canBe_X5_isLaw
set_option maxRecDepth 20000 in
theorem ggX5_canBe_X5_isSet : GoodIn wsX5_canBe wsX5_isSet := goodIn_r _ [16, 17, 10, 11, 4, 12, 18, 19, 20, 21, 22, 23, 24, 25, 26, 27, 28, 29, 30] (by decide +kernel) (by decide +kernel)
set_option maxRecDepth 20000 in
theorem gX5_canBe_X5_isSet : GoodIn wsX5_canBe (wsV RX5 67 RX5 yX5_isSet wsX5_isSet) := goodIn_app (goodIn_of _ (by decide +kernel)) ggX5_canBe_X5_isSet
set_option maxRecDepth 20000 in
theorem ggX5_canBe_X5_isPlace : GoodIn wsX5_canBe wsX5_isPlace := goodIn_r _ [9, 10, 11, 4, 12] (by decide +kernel) (by decide +kernel)
set_option maxRecDepth 20000 in
theorem gX5_canBe_X5_isPlace : GoodIn wsX5_canBe (va_wsS RX5 56 yX5_isPlace wsX5_isPlace) := goodIn_app (goodIn_of _ (by decide +kernel)) ggX5_canBe_X5_isPlace
theorem dX5_canBe_0 : decode cX5_canBe 0 = .ok (.aload_n 0, 1) := by decide +kernel
theorem dX5_canBe_1 : decode cX5_canBe 1 = .ok (.iload_n 1, 1) := by decide +kernel
theorem dX5_canBe_2 : decode cX5_canBe 2 = .ok (.invokevirtual 94, 3) := by decide +kernel
theorem dX5_canBe_5 : decode cX5_canBe 5 = .ok (.ifCond .eq 22, 3) := by decide +kernel
theorem dX5_canBe_8 : decode cX5_canBe 8 = .ok (.aload_n 0, 1) := by decide +kernel
theorem dX5_canBe_9 : decode cX5_canBe 9 = .ok (.iload_n 2, 1) := by decide +kernel
theorem dX5_canBe_10 : decode cX5_canBe 10 = .ok (.invokevirtual 67, 3) := by decide +kernel
theorem dX5_canBe_13 : decode cX5_canBe 13 = .ok (.ifCond .eq 14, 3) := by decide +kernel
theorem dX5_canBe_16 : decode cX5_canBe 16 = .ok (.iload_n 3, 1) := by decide +kernel
theorem dX5_canBe_17 : decode cX5_canBe 17 = .ok (.invokestatic 56, 3) := by decide +kernel
theorem dX5_canBe_20 : decode cX5_canBe 20 = .ok (.ifCond .eq 7, 3) := by decide +kernel
theorem dX5_canBe_23 : decode cX5_canBe 23 = .ok (.iconst 1, 1) := by decide +kernel
theorem dX5_canBe_24 : decode cX5_canBe 24 = .ok (.goto 4, 3) := by decide +kernel
theorem dX5_canBe_27 : decode cX5_canBe 27 = .ok (.iconst 0, 1) := by decide +kernel
theorem dX5_canBe_28 : decode cX5_canBe 28 = .ok (.ireturn, 1) := by decide +kernel
set_option maxRecDepth 20000 in
theorem ggX5_thin_X5_canBe : GoodIn wsX5_thin wsX5_canBe := goodIn_r _ [8, 9, 10, 11, 7, 12, 13, 14, 15, 16, 17, 18, 19, 20, 21, 22, 23, 1, 39, 40, 41, 42, 43, 44, 45, 46, 47, 48, 49, 50, 51] (by decide +kernel) (by decide +kernel)
set_option maxRecDepth 20000 in
theorem gX5_thin_X5_canBe : GoodIn wsX5_thin (wsV RX5 97 RX5 yX5_canBe wsX5_canBe) := goodIn_app (goodIn_of _ (by decide +kernel)) ggX5_thin_X5_canBe
set_option maxRecDepth 20000 in
theorem ggX5_thin_X5_clear : GoodIn wsX5_thin wsX5_clear := goodIn_r _ [27, 2, 39, 40, 41, 42, 43, 44, 45, 46, 47, 48, 49, 50, 51] (by decide +kernel) (by decide +kernel)
set_option maxRecDepth 20000 in
theorem gX5_thin_X5_clear : GoodIn wsX5_thin (wsV RX5 83 RX5 yX5_clear wsX5_clear) := goodIn_app (goodIn_of _ (by decide +kernel)) ggX5_thin_X5_clear
set_option maxRecDepth 20000 in
theorem ggX5_thin_X5_sizeOf : GoodIn wsX5_thin wsX5_sizeOf := goodIn_r _ [30] (by decide +kernel) (by decide +kernel)
set_option maxRecDepth 20000 in
theorem gX5_thin_X5_sizeOf : GoodIn wsX5_thin (va_wsS RX5 63 yX5_sizeOf wsX5_sizeOf) := goodIn_app (goodIn_of _ (by decide +kernel)) ggX5_thin_X5_sizeOf
set_option maxRecDepth 20000 in
theorem ggX5_thin_X5_makes : GoodIn wsX5_thin wsX5_makes := goodIn_r _ [34, 1, 2, 35, 3, 13, 36, 37, 7, 38, 39, 40, 41, 42, 43, 44, 45, 46, 47, 48, 49, 50, 51] (by decide +kernel) (by decide +kernel)
set_option maxRecDepth 20000 in
theorem gX5_thin_X5_makes : GoodIn wsX5_thin (wsV RX5 86 RX5 yX5_makes wsX5_makes) := goodIn_app (goodIn_of _ (by decide +kernel)) ggX5_thin_X5_makes
theorem dX5_thin_0 : decode cX5_thin 0 = .ok (.aload_n 0, 1) := by decide +kernel
theorem dX5_thin_1 : decode cX5_thin 1 = .ok (.iload_n 1, 1) := by decide +kernel
theorem dX5_thin_2 : decode cX5_thin 2 = .ok (.iload_n 2, 1) := by decide +kernel
theorem dX5_thin_3 : decode cX5_thin 3 = .ok (.iload_n 3, 1) := by decide +kernel
theorem dX5_thin_4 : decode cX5_thin 4 = .ok (.invokevirtual 97, 3) := by decide +kernel
theorem dX5_thin_7 : decode cX5_thin 7 = .ok (.ifCond .ne 5, 3) := by decide +kernel
theorem dX5_thin_10 : decode cX5_thin 10 = .ok (.iconst 0, 1) := by decide +kernel
theorem dX5_thin_11 : decode cX5_thin 11 = .ok (.ireturn, 1) := by decide +kernel
theorem dX5_thin_12 : decode cX5_thin 12 = .ok (.aload_n 0, 1) := by decide +kernel
theorem dX5_thin_13 : decode cX5_thin 13 = .ok (.invokevirtual 83, 3) := by decide +kernel
theorem dX5_thin_16 : decode cX5_thin 16 = .ok (.iconst 0, 1) := by decide +kernel
theorem dX5_thin_17 : decode cX5_thin 17 = .ok (.istore 4, 2) := by decide +kernel
theorem dX5_thin_19 : decode cX5_thin 19 = .ok (.iload 4, 2) := by decide +kernel
theorem dX5_thin_21 : decode cX5_thin 21 = .ok (.aload_n 0, 1) := by decide +kernel
theorem dX5_thin_22 : decode cX5_thin 22 = .ok (.getfield 49, 3) := by decide +kernel
theorem dX5_thin_25 : decode cX5_thin 25 = .ok (.if_icmp .ge 89, 3) := by decide +kernel
theorem dX5_thin_28 : decode cX5_thin 28 = .ok (.iconst 0, 1) := by decide +kernel
theorem dX5_thin_29 : decode cX5_thin 29 = .ok (.istore 5, 2) := by decide +kernel
theorem dX5_thin_31 : decode cX5_thin 31 = .ok (.iload 5, 2) := by decide +kernel
theorem dX5_thin_33 : decode cX5_thin 33 = .ok (.aload_n 0, 1) := by decide +kernel
theorem dX5_thin_34 : decode cX5_thin 34 = .ok (.getfield 49, 3) := by decide +kernel
theorem dX5_thin_37 : decode cX5_thin 37 = .ok (.if_icmp .ge 71, 3) := by decide +kernel
theorem dX5_thin_40 : decode cX5_thin 40 = .ok (.iload 5, 2) := by decide +kernel
theorem dX5_thin_42 : decode cX5_thin 42 = .ok (.iload 4, 2) := by decide +kernel
theorem dX5_thin_44 : decode cX5_thin 44 = .ok (.iconst (-1), 1) := by decide +kernel
theorem dX5_thin_45 : decode cX5_thin 45 = .ok (.ixor, 1) := by decide +kernel
theorem dX5_thin_46 : decode cX5_thin 46 = .ok (.iand, 1) := by decide +kernel
theorem dX5_thin_47 : decode cX5_thin 47 = .ok (.ifCond .ne 55, 3) := by decide +kernel
theorem dX5_thin_50 : decode cX5_thin 50 = .ok (.iload 4, 2) := by decide +kernel
theorem dX5_thin_52 : decode cX5_thin 52 = .ok (.iload_n 2, 1) := by decide +kernel
theorem dX5_thin_53 : decode cX5_thin 53 = .ok (.iconst (-1), 1) := by decide +kernel
theorem dX5_thin_54 : decode cX5_thin 54 = .ok (.ixor, 1) := by decide +kernel
theorem dX5_thin_55 : decode cX5_thin 55 = .ok (.iand, 1) := by decide +kernel
theorem dX5_thin_56 : decode cX5_thin 56 = .ok (.iload 5, 2) := by decide +kernel
theorem dX5_thin_58 : decode cX5_thin 58 = .ok (.iconst (-1), 1) := by decide +kernel
theorem dX5_thin_59 : decode cX5_thin 59 = .ok (.ixor, 1) := by decide +kernel
theorem dX5_thin_60 : decode cX5_thin 60 = .ok (.iand, 1) := by decide +kernel
theorem dX5_thin_61 : decode cX5_thin 61 = .ok (.ifCond .eq 6, 3) := by decide +kernel
theorem dX5_thin_64 : decode cX5_thin 64 = .ok (.goto 38, 3) := by decide +kernel
theorem dX5_thin_67 : decode cX5_thin 67 = .ok (.aload_n 0, 1) := by decide +kernel
theorem dX5_thin_68 : decode cX5_thin 68 = .ok (.getfield 23, 3) := by decide +kernel
theorem dX5_thin_71 : decode cX5_thin 71 = .ok (.iload 5, 2) := by decide +kernel
theorem dX5_thin_73 : decode cX5_thin 73 = .ok (.dup2, 1) := by decide +kernel
theorem dX5_thin_74 : decode cX5_thin 74 = .ok (.laload, 1) := by decide +kernel
theorem dX5_thin_75 : decode cX5_thin 75 = .ok (.aload_n 0, 1) := by decide +kernel
theorem dX5_thin_76 : decode cX5_thin 76 = .ok (.getfield 20, 3) := by decide +kernel
theorem dX5_thin_79 : decode cX5_thin 79 = .ok (.bipush 64, 2) := by decide +kernel
theorem dX5_thin_81 : decode cX5_thin 81 = .ok (.iload_n 1, 1) := by decide +kernel
theorem dX5_thin_82 : decode cX5_thin 82 = .ok (.imul, 1) := by decide +kernel
theorem dX5_thin_83 : decode cX5_thin 83 = .ok (.iload 4, 2) := by decide +kernel
theorem dX5_thin_85 : decode cX5_thin 85 = .ok (.iadd, 1) := by decide +kernel
theorem dX5_thin_86 : decode cX5_thin 86 = .ok (.laload, 1) := by decide +kernel
theorem dX5_thin_87 : decode cX5_thin 87 = .ok (.iload_n 2, 1) := by decide +kernel
theorem dX5_thin_88 : decode cX5_thin 88 = .ok (.invokestatic 63, 3) := by decide +kernel
theorem dX5_thin_91 : decode cX5_thin 91 = .ok (.iload 4, 2) := by decide +kernel
theorem dX5_thin_93 : decode cX5_thin 93 = .ok (.iload_n 2, 1) := by decide +kernel
theorem dX5_thin_94 : decode cX5_thin 94 = .ok (.iand, 1) := by decide +kernel
theorem dX5_thin_95 : decode cX5_thin 95 = .ok (.invokestatic 63, 3) := by decide +kernel
theorem dX5_thin_98 : decode cX5_thin 98 = .ok (.isub, 1) := by decide +kernel
theorem dX5_thin_99 : decode cX5_thin 99 = .ok (.lshl, 1) := by decide +kernel
theorem dX5_thin_100 : decode cX5_thin 100 = .ok (.ladd, 1) := by decide +kernel
theorem dX5_thin_101 : decode cX5_thin 101 = .ok (.lastore, 1) := by decide +kernel
theorem dX5_thin_102 : decode cX5_thin 102 = .ok (.iinc 5 1, 3) := by decide +kernel
theorem dX5_thin_105 : decode cX5_thin 105 = .ok (.goto (-74), 3) := by decide +kernel
theorem dX5_thin_108 : decode cX5_thin 108 = .ok (.iinc 4 1, 3) := by decide +kernel
theorem dX5_thin_111 : decode cX5_thin 111 = .ok (.goto (-92), 3) := by decide +kernel
theorem dX5_thin_114 : decode cX5_thin 114 = .ok (.aload_n 0, 1) := by decide +kernel
theorem dX5_thin_115 : decode cX5_thin 115 = .ok (.iload_n 3, 1) := by decide +kernel
theorem dX5_thin_116 : decode cX5_thin 116 = .ok (.invokevirtual 86, 3) := by decide +kernel
theorem dX5_thin_119 : decode cX5_thin 119 = .ok (.ireturn, 1) := by decide +kernel
set_option maxRecDepth 20000 in
theorem ggX5_part_X5_canBe : GoodIn wsX5_part wsX5_canBe := goodIn_r _ [8, 9, 10, 11, 7, 12, 13, 14, 15, 16, 17, 18, 19, 20, 21, 22, 23, 1, 36, 37, 38, 39, 40, 41, 42, 43, 44, 45, 46, 47, 48] (by decide +kernel) (by decide +kernel)
set_option maxRecDepth 20000 in
theorem gX5_part_X5_canBe : GoodIn wsX5_part (wsV RX5 97 RX5 yX5_canBe wsX5_canBe) := goodIn_app (goodIn_of _ (by decide +kernel)) ggX5_part_X5_canBe
set_option maxRecDepth 20000 in
theorem ggX5_part_X5_clear : GoodIn wsX5_part wsX5_clear := goodIn_r _ [27, 2, 36, 37, 38, 39, 40, 41, 42, 43, 44, 45, 46, 47, 48] (by decide +kernel) (by decide +kernel)
set_option maxRecDepth 20000 in
theorem gX5_part_X5_clear : GoodIn wsX5_part (wsV RX5 83 RX5 yX5_clear wsX5_clear) := goodIn_app (goodIn_of _ (by decide +kernel)) ggX5_part_X5_clear
set_option maxRecDepth 20000 in
theorem ggX5_part_X5_makes : GoodIn wsX5_part wsX5_makes := goodIn_r _ [31, 1, 2, 32, 3, 13, 33, 34, 7, 35, 36, 37, 38, 39, 40, 41, 42, 43, 44, 45, 46, 47, 48] (by decide +kernel) (by decide +kernel)
set_option maxRecDepth 20000 in
theorem gX5_part_X5_makes : GoodIn wsX5_part (wsV RX5 86 RX5 yX5_makes wsX5_makes) := goodIn_app (goodIn_of _ (by decide +kernel)) ggX5_part_X5_makes
theorem dX5_part_0 : decode cX5_part 0 = .ok (.aload_n 0, 1) := by decide +kernel
theorem dX5_part_1 : decode cX5_part 1 = .ok (.iload_n 1, 1) := by decide +kernel
theorem dX5_part_2 : decode cX5_part 2 = .ok (.iload_n 2, 1) := by decide +kernel
theorem dX5_part_3 : decode cX5_part 3 = .ok (.iload_n 3, 1) := by decide +kernel
theorem dX5_part_4 : decode cX5_part 4 = .ok (.invokevirtual 97, 3) := by decide +kernel
theorem dX5_part_7 : decode cX5_part 7 = .ok (.ifCond .ne 5, 3) := by decide +kernel
theorem dX5_part_10 : decode cX5_part 10 = .ok (.iconst 0, 1) := by decide +kernel
theorem dX5_part_11 : decode cX5_part 11 = .ok (.ireturn, 1) := by decide +kernel
theorem dX5_part_12 : decode cX5_part 12 = .ok (.aload_n 0, 1) := by decide +kernel
theorem dX5_part_13 : decode cX5_part 13 = .ok (.invokevirtual 83, 3) := by decide +kernel
theorem dX5_part_16 : decode cX5_part 16 = .ok (.iconst 0, 1) := by decide +kernel
theorem dX5_part_17 : decode cX5_part 17 = .ok (.istore 4, 2) := by decide +kernel
theorem dX5_part_19 : decode cX5_part 19 = .ok (.iload 4, 2) := by decide +kernel
theorem dX5_part_21 : decode cX5_part 21 = .ok (.aload_n 0, 1) := by decide +kernel
theorem dX5_part_22 : decode cX5_part 22 = .ok (.getfield 49, 3) := by decide +kernel
theorem dX5_part_25 : decode cX5_part 25 = .ok (.if_icmp .ge 33, 3) := by decide +kernel
theorem dX5_part_28 : decode cX5_part 28 = .ok (.aload_n 0, 1) := by decide +kernel
theorem dX5_part_29 : decode cX5_part 29 = .ok (.getfield 23, 3) := by decide +kernel
theorem dX5_part_32 : decode cX5_part 32 = .ok (.iload 4, 2) := by decide +kernel
theorem dX5_part_34 : decode cX5_part 34 = .ok (.iload_n 2, 1) := by decide +kernel
theorem dX5_part_35 : decode cX5_part 35 = .ok (.iand, 1) := by decide +kernel
theorem dX5_part_36 : decode cX5_part 36 = .ok (.dup2, 1) := by decide +kernel
theorem dX5_part_37 : decode cX5_part 37 = .ok (.laload, 1) := by decide +kernel
theorem dX5_part_38 : decode cX5_part 38 = .ok (.aload_n 0, 1) := by decide +kernel
theorem dX5_part_39 : decode cX5_part 39 = .ok (.getfield 20, 3) := by decide +kernel
theorem dX5_part_42 : decode cX5_part 42 = .ok (.bipush 64, 2) := by decide +kernel
theorem dX5_part_44 : decode cX5_part 44 = .ok (.iload_n 1, 1) := by decide +kernel
theorem dX5_part_45 : decode cX5_part 45 = .ok (.imul, 1) := by decide +kernel
theorem dX5_part_46 : decode cX5_part 46 = .ok (.iload 4, 2) := by decide +kernel
theorem dX5_part_48 : decode cX5_part 48 = .ok (.iadd, 1) := by decide +kernel
theorem dX5_part_49 : decode cX5_part 49 = .ok (.laload, 1) := by decide +kernel
theorem dX5_part_50 : decode cX5_part 50 = .ok (.ladd, 1) := by decide +kernel
theorem dX5_part_51 : decode cX5_part 51 = .ok (.lastore, 1) := by decide +kernel
theorem dX5_part_52 : decode cX5_part 52 = .ok (.iinc 4 1, 3) := by decide +kernel
theorem dX5_part_55 : decode cX5_part 55 = .ok (.goto (-36), 3) := by decide +kernel
theorem dX5_part_58 : decode cX5_part 58 = .ok (.aload_n 0, 1) := by decide +kernel
theorem dX5_part_59 : decode cX5_part 59 = .ok (.iload_n 3, 1) := by decide +kernel
theorem dX5_part_60 : decode cX5_part 60 = .ok (.invokevirtual 86, 3) := by decide +kernel
theorem dX5_part_63 : decode cX5_part 63 = .ok (.ireturn, 1) := by decide +kernel
set_option maxRecDepth 20000 in
theorem ggX5_other_X5_canBe : GoodIn wsX5_other wsX5_canBe := goodIn_r _ [8, 9, 10, 11, 7, 12, 13, 14, 15, 16, 17, 18, 19, 20, 21, 22, 23, 1, 36, 37, 38, 39, 40, 41, 42, 43, 44, 45, 46, 47, 48] (by decide +kernel) (by decide +kernel)
set_option maxRecDepth 20000 in
theorem gX5_other_X5_canBe : GoodIn wsX5_other (wsV RX5 97 RX5 yX5_canBe wsX5_canBe) := goodIn_app (goodIn_of _ (by decide +kernel)) ggX5_other_X5_canBe
set_option maxRecDepth 20000 in
theorem ggX5_other_X5_clear : GoodIn wsX5_other wsX5_clear := goodIn_r _ [27, 2, 36, 37, 38, 39, 40, 41, 42, 43, 44, 45, 46, 47, 48] (by decide +kernel) (by decide +kernel)
set_option maxRecDepth 20000 in
theorem gX5_other_X5_clear : GoodIn wsX5_other (wsV RX5 83 RX5 yX5_clear wsX5_clear) := goodIn_app (goodIn_of _ (by decide +kernel)) ggX5_other_X5_clear
set_option maxRecDepth 20000 in
theorem ggX5_other_X5_makes : GoodIn wsX5_other wsX5_makes := goodIn_r _ [31, 1, 2, 32, 3, 13, 33, 34, 7, 35, 36, 37, 38, 39, 40, 41, 42, 43, 44, 45, 46, 47, 48] (by decide +kernel) (by decide +kernel)
set_option maxRecDepth 20000 in
theorem gX5_other_X5_makes : GoodIn wsX5_other (wsV RX5 86 RX5 yX5_makes wsX5_makes) := goodIn_app (goodIn_of _ (by decide +kernel)) ggX5_other_X5_makes
theorem dX5_other_0 : decode cX5_other 0 = .ok (.aload_n 0, 1) := by decide +kernel
theorem dX5_other_1 : decode cX5_other 1 = .ok (.iload_n 1, 1) := by decide +kernel
theorem dX5_other_2 : decode cX5_other 2 = .ok (.iload_n 2, 1) := by decide +kernel
theorem dX5_other_3 : decode cX5_other 3 = .ok (.iload_n 3, 1) := by decide +kernel
theorem dX5_other_4 : decode cX5_other 4 = .ok (.invokevirtual 97, 3) := by decide +kernel
theorem dX5_other_7 : decode cX5_other 7 = .ok (.ifCond .ne 5, 3) := by decide +kernel
theorem dX5_other_10 : decode cX5_other 10 = .ok (.iconst 0, 1) := by decide +kernel
theorem dX5_other_11 : decode cX5_other 11 = .ok (.ireturn, 1) := by decide +kernel
theorem dX5_other_12 : decode cX5_other 12 = .ok (.aload_n 0, 1) := by decide +kernel
theorem dX5_other_13 : decode cX5_other 13 = .ok (.invokevirtual 83, 3) := by decide +kernel
theorem dX5_other_16 : decode cX5_other 16 = .ok (.iconst 0, 1) := by decide +kernel
theorem dX5_other_17 : decode cX5_other 17 = .ok (.istore 4, 2) := by decide +kernel
theorem dX5_other_19 : decode cX5_other 19 = .ok (.iload 4, 2) := by decide +kernel
theorem dX5_other_21 : decode cX5_other 21 = .ok (.aload_n 0, 1) := by decide +kernel
theorem dX5_other_22 : decode cX5_other 22 = .ok (.getfield 49, 3) := by decide +kernel
theorem dX5_other_25 : decode cX5_other 25 = .ok (.if_icmp .ge 30, 3) := by decide +kernel
theorem dX5_other_28 : decode cX5_other 28 = .ok (.aload_n 0, 1) := by decide +kernel
theorem dX5_other_29 : decode cX5_other 29 = .ok (.getfield 23, 3) := by decide +kernel
theorem dX5_other_32 : decode cX5_other 32 = .ok (.iload 4, 2) := by decide +kernel
theorem dX5_other_34 : decode cX5_other 34 = .ok (.iload_n 2, 1) := by decide +kernel
theorem dX5_other_35 : decode cX5_other 35 = .ok (.ixor, 1) := by decide +kernel
theorem dX5_other_36 : decode cX5_other 36 = .ok (.aload_n 0, 1) := by decide +kernel
theorem dX5_other_37 : decode cX5_other 37 = .ok (.getfield 20, 3) := by decide +kernel
theorem dX5_other_40 : decode cX5_other 40 = .ok (.bipush 64, 2) := by decide +kernel
theorem dX5_other_42 : decode cX5_other 42 = .ok (.iload_n 1, 1) := by decide +kernel
theorem dX5_other_43 : decode cX5_other 43 = .ok (.imul, 1) := by decide +kernel
theorem dX5_other_44 : decode cX5_other 44 = .ok (.iload 4, 2) := by decide +kernel
theorem dX5_other_46 : decode cX5_other 46 = .ok (.iadd, 1) := by decide +kernel
theorem dX5_other_47 : decode cX5_other 47 = .ok (.laload, 1) := by decide +kernel
theorem dX5_other_48 : decode cX5_other 48 = .ok (.lastore, 1) := by decide +kernel
theorem dX5_other_49 : decode cX5_other 49 = .ok (.iinc 4 1, 3) := by decide +kernel
theorem dX5_other_52 : decode cX5_other 52 = .ok (.goto (-33), 3) := by decide +kernel
theorem dX5_other_55 : decode cX5_other 55 = .ok (.aload_n 0, 1) := by decide +kernel
theorem dX5_other_56 : decode cX5_other 56 = .ok (.iload_n 3, 1) := by decide +kernel
theorem dX5_other_57 : decode cX5_other 57 = .ok (.invokevirtual 86, 3) := by decide +kernel
theorem dX5_other_60 : decode cX5_other 60 = .ok (.ireturn, 1) := by decide +kernel
theorem dX5_sum_0 : decode cX5_sum 0 = .ok (.lconst 0, 1) := by decide +kernel
theorem dX5_sum_1 : decode cX5_sum 1 = .ok (.lstore_n 2, 1) := by decide +kernel
theorem dX5_sum_2 : decode cX5_sum 2 = .ok (.iconst 0, 1) := by decide +kernel
theorem dX5_sum_3 : decode cX5_sum 3 = .ok (.istore 4, 2) := by decide +kernel
theorem dX5_sum_5 : decode cX5_sum 5 = .ok (.iload 4, 2) := by decide +kernel
theorem dX5_sum_7 : decode cX5_sum 7 = .ok (.aload_n 0, 1) := by decide +kernel
theorem dX5_sum_8 : decode cX5_sum 8 = .ok (.getfield 49, 3) := by decide +kernel
theorem dX5_sum_11 : decode cX5_sum 11 = .ok (.if_icmp .ge 24, 3) := by decide +kernel
theorem dX5_sum_14 : decode cX5_sum 14 = .ok (.lload_n 2, 1) := by decide +kernel
theorem dX5_sum_15 : decode cX5_sum 15 = .ok (.aload_n 0, 1) := by decide +kernel
theorem dX5_sum_16 : decode cX5_sum 16 = .ok (.getfield 20, 3) := by decide +kernel
theorem dX5_sum_19 : decode cX5_sum 19 = .ok (.bipush 64, 2) := by decide +kernel
theorem dX5_sum_21 : decode cX5_sum 21 = .ok (.iload_n 1, 1) := by decide +kernel
theorem dX5_sum_22 : decode cX5_sum 22 = .ok (.imul, 1) := by decide +kernel
theorem dX5_sum_23 : decode cX5_sum 23 = .ok (.iload 4, 2) := by decide +kernel
theorem dX5_sum_25 : decode cX5_sum 25 = .ok (.iadd, 1) := by decide +kernel
theorem dX5_sum_26 : decode cX5_sum 26 = .ok (.laload, 1) := by decide +kernel
theorem dX5_sum_27 : decode cX5_sum 27 = .ok (.ladd, 1) := by decide +kernel
theorem dX5_sum_28 : decode cX5_sum 28 = .ok (.lstore_n 2, 1) := by decide +kernel
theorem dX5_sum_29 : decode cX5_sum 29 = .ok (.iinc 4 1, 3) := by decide +kernel
theorem dX5_sum_32 : decode cX5_sum 32 = .ok (.goto (-27), 3) := by decide +kernel
theorem dX5_sum_35 : decode cX5_sum 35 = .ok (.lload_n 2, 1) := by decide +kernel
theorem dX5_sum_36 : decode cX5_sum 36 = .ok (.lreturn, 1) := by decide +kernel
set_option maxRecDepth 20000 in
theorem ggX5_mix_X5_isLaw : GoodIn wsX5_mix wsX5_isLaw := goodIn_r _ [8, 9, 10, 11, 7, 12, 13, 14, 15, 32, 33, 34, 35, 36, 37, 38, 39, 40, 41, 42, 43, 44] (by decide +kernel) (by decide +kernel)
set_option maxRecDepth 20000 in
theorem gX5_mix_X5_isLaw : GoodIn wsX5_mix (wsV RX5 94 RX5 yX5_isLaw wsX5_isLaw) := goodIn_app (goodIn_of _ (by decide +kernel)) ggX5_mix_X5_isLaw
set_option maxRecDepth 20000 in
theorem ggX5_mix_X5_in : GoodIn wsX5_mix wsX5_in := goodIn_r _ [15] (by decide +kernel) (by decide +kernel)
set_option maxRecDepth 20000 in
theorem gX5_mix_X5_in : GoodIn wsX5_mix (va_wsS RX5 52 yX5_in wsX5_in) := goodIn_app (goodIn_of _ (by decide +kernel)) ggX5_mix_X5_in
set_option maxRecDepth 20000 in
theorem ggX5_mix_X5_isPlace : GoodIn wsX5_mix wsX5_isPlace := goodIn_r _ [12, 13, 14, 7, 15] (by decide +kernel) (by decide +kernel)
set_option maxRecDepth 20000 in
theorem gX5_mix_X5_isPlace : GoodIn wsX5_mix (va_wsS RX5 56 yX5_isPlace wsX5_isPlace) := goodIn_app (goodIn_of _ (by decide +kernel)) ggX5_mix_X5_isPlace
set_option maxRecDepth 20000 in
theorem ggX5_mix_X5_clear : GoodIn wsX5_mix wsX5_clear := goodIn_r _ [19, 2, 32, 33, 34, 35, 36, 37, 38, 39, 40, 41, 42, 43, 44] (by decide +kernel) (by decide +kernel)
set_option maxRecDepth 20000 in
theorem gX5_mix_X5_clear : GoodIn wsX5_mix (wsV RX5 83 RX5 yX5_clear wsX5_clear) := goodIn_app (goodIn_of _ (by decide +kernel)) ggX5_mix_X5_clear
set_option maxRecDepth 20000 in
theorem ggX5_mix_X5_sum : GoodIn wsX5_mix wsX5_sum := goodIn_r _ [23, 1, 3, 32, 33, 34, 35, 36, 37, 38, 39, 40, 41, 42, 43, 44] (by decide +kernel) (by decide +kernel)
set_option maxRecDepth 20000 in
theorem gX5_mix_X5_sum : GoodIn wsX5_mix (wsV RX5 100 RX5 yX5_sum wsX5_sum) := goodIn_app (goodIn_of _ (by decide +kernel)) ggX5_mix_X5_sum
set_option maxRecDepth 20000 in
theorem ggX5_mix_X5_makes : GoodIn wsX5_mix wsX5_makes := goodIn_r _ [27, 1, 2, 28, 3, 9, 29, 30, 7, 31, 32, 33, 34, 35, 36, 37, 38, 39, 40, 41, 42, 43, 44] (by decide +kernel) (by decide +kernel)
set_option maxRecDepth 20000 in
theorem gX5_mix_X5_makes : GoodIn wsX5_mix (wsV RX5 86 RX5 yX5_makes wsX5_makes) := goodIn_app (goodIn_of _ (by decide +kernel)) ggX5_mix_X5_makes
theorem dX5_mix_0 : decode cX5_mix 0 = .ok (.aload_n 0, 1) := by decide +kernel
theorem dX5_mix_1 : decode cX5_mix 1 = .ok (.iload_n 1, 1) := by decide +kernel
theorem dX5_mix_2 : decode cX5_mix 2 = .ok (.invokevirtual 94, 3) := by decide +kernel
theorem dX5_mix_5 : decode cX5_mix 5 = .ok (.ifCond .eq 40, 3) := by decide +kernel
theorem dX5_mix_8 : decode cX5_mix 8 = .ok (.aload_n 0, 1) := by decide +kernel
theorem dX5_mix_9 : decode cX5_mix 9 = .ok (.iload_n 2, 1) := by decide +kernel
theorem dX5_mix_10 : decode cX5_mix 10 = .ok (.invokevirtual 94, 3) := by decide +kernel
theorem dX5_mix_13 : decode cX5_mix 13 = .ok (.ifCond .eq 32, 3) := by decide +kernel
theorem dX5_mix_16 : decode cX5_mix 16 = .ok (.iload_n 3, 1) := by decide +kernel
theorem dX5_mix_17 : decode cX5_mix 17 = .ok (.iconst 1, 1) := by decide +kernel
theorem dX5_mix_18 : decode cX5_mix 18 = .ok (.bipush 9, 2) := by decide +kernel
theorem dX5_mix_20 : decode cX5_mix 20 = .ok (.invokestatic 52, 3) := by decide +kernel
theorem dX5_mix_23 : decode cX5_mix 23 = .ok (.ifCond .eq 22, 3) := by decide +kernel
theorem dX5_mix_26 : decode cX5_mix 26 = .ok (.iload 4, 2) := by decide +kernel
theorem dX5_mix_28 : decode cX5_mix 28 = .ok (.iconst 1, 1) := by decide +kernel
theorem dX5_mix_29 : decode cX5_mix 29 = .ok (.bipush 9, 2) := by decide +kernel
theorem dX5_mix_31 : decode cX5_mix 31 = .ok (.invokestatic 52, 3) := by decide +kernel
theorem dX5_mix_34 : decode cX5_mix 34 = .ok (.ifCond .eq 11, 3) := by decide +kernel
theorem dX5_mix_37 : decode cX5_mix 37 = .ok (.iload 5, 2) := by decide +kernel
theorem dX5_mix_39 : decode cX5_mix 39 = .ok (.invokestatic 56, 3) := by decide +kernel
theorem dX5_mix_42 : decode cX5_mix 42 = .ok (.ifCond .ne 5, 3) := by decide +kernel
theorem dX5_mix_45 : decode cX5_mix 45 = .ok (.iconst 0, 1) := by decide +kernel
theorem dX5_mix_46 : decode cX5_mix 46 = .ok (.ireturn, 1) := by decide +kernel
theorem dX5_mix_47 : decode cX5_mix 47 = .ok (.aload_n 0, 1) := by decide +kernel
theorem dX5_mix_48 : decode cX5_mix 48 = .ok (.invokevirtual 83, 3) := by decide +kernel
theorem dX5_mix_51 : decode cX5_mix 51 = .ok (.iconst 0, 1) := by decide +kernel
theorem dX5_mix_52 : decode cX5_mix 52 = .ok (.istore 6, 2) := by decide +kernel
theorem dX5_mix_54 : decode cX5_mix 54 = .ok (.iload 6, 2) := by decide +kernel
theorem dX5_mix_56 : decode cX5_mix 56 = .ok (.aload_n 0, 1) := by decide +kernel
theorem dX5_mix_57 : decode cX5_mix 57 = .ok (.getfield 49, 3) := by decide +kernel
theorem dX5_mix_60 : decode cX5_mix 60 = .ok (.if_icmp .ge 60, 3) := by decide +kernel
theorem dX5_mix_63 : decode cX5_mix 63 = .ok (.aload_n 0, 1) := by decide +kernel
theorem dX5_mix_64 : decode cX5_mix 64 = .ok (.getfield 23, 3) := by decide +kernel
theorem dX5_mix_67 : decode cX5_mix 67 = .ok (.iload 6, 2) := by decide +kernel
theorem dX5_mix_69 : decode cX5_mix 69 = .ok (.aload_n 0, 1) := by decide +kernel
theorem dX5_mix_70 : decode cX5_mix 70 = .ok (.getfield 20, 3) := by decide +kernel
theorem dX5_mix_73 : decode cX5_mix 73 = .ok (.bipush 64, 2) := by decide +kernel
theorem dX5_mix_75 : decode cX5_mix 75 = .ok (.iload_n 1, 1) := by decide +kernel
theorem dX5_mix_76 : decode cX5_mix 76 = .ok (.imul, 1) := by decide +kernel
theorem dX5_mix_77 : decode cX5_mix 77 = .ok (.iload 6, 2) := by decide +kernel
theorem dX5_mix_79 : decode cX5_mix 79 = .ok (.iadd, 1) := by decide +kernel
theorem dX5_mix_80 : decode cX5_mix 80 = .ok (.laload, 1) := by decide +kernel
theorem dX5_mix_81 : decode cX5_mix 81 = .ok (.iload_n 3, 1) := by decide +kernel
theorem dX5_mix_82 : decode cX5_mix 82 = .ok (.i2l, 1) := by decide +kernel
theorem dX5_mix_83 : decode cX5_mix 83 = .ok (.lmul, 1) := by decide +kernel
theorem dX5_mix_84 : decode cX5_mix 84 = .ok (.aload_n 0, 1) := by decide +kernel
theorem dX5_mix_85 : decode cX5_mix 85 = .ok (.iload_n 2, 1) := by decide +kernel
theorem dX5_mix_86 : decode cX5_mix 86 = .ok (.invokevirtual 100, 3) := by decide +kernel
theorem dX5_mix_89 : decode cX5_mix 89 = .ok (.lmul, 1) := by decide +kernel
theorem dX5_mix_90 : decode cX5_mix 90 = .ok (.aload_n 0, 1) := by decide +kernel
theorem dX5_mix_91 : decode cX5_mix 91 = .ok (.getfield 20, 3) := by decide +kernel
theorem dX5_mix_94 : decode cX5_mix 94 = .ok (.bipush 64, 2) := by decide +kernel
theorem dX5_mix_96 : decode cX5_mix 96 = .ok (.iload_n 2, 1) := by decide +kernel
theorem dX5_mix_97 : decode cX5_mix 97 = .ok (.imul, 1) := by decide +kernel
theorem dX5_mix_98 : decode cX5_mix 98 = .ok (.iload 6, 2) := by decide +kernel
theorem dX5_mix_100 : decode cX5_mix 100 = .ok (.iadd, 1) := by decide +kernel
theorem dX5_mix_101 : decode cX5_mix 101 = .ok (.laload, 1) := by decide +kernel
theorem dX5_mix_102 : decode cX5_mix 102 = .ok (.iload 4, 2) := by decide +kernel
theorem dX5_mix_104 : decode cX5_mix 104 = .ok (.i2l, 1) := by decide +kernel
theorem dX5_mix_105 : decode cX5_mix 105 = .ok (.lmul, 1) := by decide +kernel
theorem dX5_mix_106 : decode cX5_mix 106 = .ok (.aload_n 0, 1) := by decide +kernel
theorem dX5_mix_107 : decode cX5_mix 107 = .ok (.iload_n 1, 1) := by decide +kernel
theorem dX5_mix_108 : decode cX5_mix 108 = .ok (.invokevirtual 100, 3) := by decide +kernel
theorem dX5_mix_111 : decode cX5_mix 111 = .ok (.lmul, 1) := by decide +kernel
theorem dX5_mix_112 : decode cX5_mix 112 = .ok (.ladd, 1) := by decide +kernel
theorem dX5_mix_113 : decode cX5_mix 113 = .ok (.lastore, 1) := by decide +kernel
theorem dX5_mix_114 : decode cX5_mix 114 = .ok (.iinc 6 1, 3) := by decide +kernel
theorem dX5_mix_117 : decode cX5_mix 117 = .ok (.goto (-63), 3) := by decide +kernel
theorem dX5_mix_120 : decode cX5_mix 120 = .ok (.aload_n 0, 1) := by decide +kernel
theorem dX5_mix_121 : decode cX5_mix 121 = .ok (.iload 5, 2) := by decide +kernel
theorem dX5_mix_123 : decode cX5_mix 123 = .ok (.invokevirtual 86, 3) := by decide +kernel
theorem dX5_mix_126 : decode cX5_mix 126 = .ok (.ireturn, 1) := by decide +kernel
set_option maxRecDepth 20000 in
theorem ggX5_share_X5_isLaw : GoodIn wsX5_share wsX5_isLaw := goodIn_r _ [7, 8, 9, 10, 6, 11, 12, 13, 14, 20, 21, 22, 23, 24, 25, 26, 27, 28, 29, 30, 31, 32] (by decide +kernel) (by decide +kernel)
set_option maxRecDepth 20000 in
theorem gX5_share_X5_isLaw : GoodIn wsX5_share (wsV RX5 94 RX5 yX5_isLaw wsX5_isLaw) := goodIn_app (goodIn_of _ (by decide +kernel)) ggX5_share_X5_isLaw
set_option maxRecDepth 20000 in
theorem ggX5_share_X5_isSet : GoodIn wsX5_share wsX5_isSet := goodIn_r _ [18, 19, 12, 13, 6, 14, 20, 21, 22, 23, 24, 25, 26, 27, 28, 29, 30, 31, 32] (by decide +kernel) (by decide +kernel)
set_option maxRecDepth 20000 in
theorem gX5_share_X5_isSet : GoodIn wsX5_share (wsV RX5 67 RX5 yX5_isSet wsX5_isSet) := goodIn_app (goodIn_of _ (by decide +kernel)) ggX5_share_X5_isSet
theorem dX5_share_0 : decode cX5_share 0 = .ok (.aload_n 0, 1) := by decide +kernel
theorem dX5_share_1 : decode cX5_share 1 = .ok (.iload_n 1, 1) := by decide +kernel
theorem dX5_share_2 : decode cX5_share 2 = .ok (.invokevirtual 94, 3) := by decide +kernel
theorem dX5_share_5 : decode cX5_share 5 = .ok (.ifCond .eq 25, 3) := by decide +kernel
theorem dX5_share_8 : decode cX5_share 8 = .ok (.aload_n 0, 1) := by decide +kernel
theorem dX5_share_9 : decode cX5_share 9 = .ok (.iload_n 2, 1) := by decide +kernel
theorem dX5_share_10 : decode cX5_share 10 = .ok (.invokevirtual 67, 3) := by decide +kernel
theorem dX5_share_13 : decode cX5_share 13 = .ok (.ifCond .eq 17, 3) := by decide +kernel
theorem dX5_share_16 : decode cX5_share 16 = .ok (.aload_n 0, 1) := by decide +kernel
theorem dX5_share_17 : decode cX5_share 17 = .ok (.getfield 20, 3) := by decide +kernel
theorem dX5_share_20 : decode cX5_share 20 = .ok (.bipush 64, 2) := by decide +kernel
theorem dX5_share_22 : decode cX5_share 22 = .ok (.iload_n 1, 1) := by decide +kernel
theorem dX5_share_23 : decode cX5_share 23 = .ok (.imul, 1) := by decide +kernel
theorem dX5_share_24 : decode cX5_share 24 = .ok (.iload_n 2, 1) := by decide +kernel
theorem dX5_share_25 : decode cX5_share 25 = .ok (.iadd, 1) := by decide +kernel
theorem dX5_share_26 : decode cX5_share 26 = .ok (.laload, 1) := by decide +kernel
theorem dX5_share_27 : decode cX5_share 27 = .ok (.goto 6, 3) := by decide +kernel
theorem dX5_share_30 : decode cX5_share 30 = .ok (.ldc2_w 104, 3) := by decide +kernel
theorem dX5_share_33 : decode cX5_share 33 = .ok (.lreturn, 1) := by decide +kernel
set_option maxRecDepth 20000 in
theorem ggX5_fraction_X5_common : GoodIn wsX5_fraction wsX5_common := goodIn_r _ [4] (by decide +kernel) (by decide +kernel)
set_option maxRecDepth 20000 in
theorem gX5_fraction_X5_common : GoodIn wsX5_fraction (va_wsS RX5 74 yX5_common wsX5_common) := goodIn_app (goodIn_of _ (by decide +kernel)) ggX5_fraction_X5_common
theorem dX5_fraction_0 : decode cX5_fraction 0 = .ok (.lload_n 2, 1) := by decide +kernel
theorem dX5_fraction_1 : decode cX5_fraction 1 = .ok (.lload_n 0, 1) := by decide +kernel
theorem dX5_fraction_2 : decode cX5_fraction 2 = .ok (.lconst 0, 1) := by decide +kernel
theorem dX5_fraction_3 : decode cX5_fraction 3 = .ok (.lcmp, 1) := by decide +kernel
theorem dX5_fraction_4 : decode cX5_fraction 4 = .ok (.ifCond .ge 8, 3) := by decide +kernel
theorem dX5_fraction_7 : decode cX5_fraction 7 = .ok (.lload_n 0, 1) := by decide +kernel
theorem dX5_fraction_8 : decode cX5_fraction 8 = .ok (.lneg, 1) := by decide +kernel
theorem dX5_fraction_9 : decode cX5_fraction 9 = .ok (.goto 4, 3) := by decide +kernel
theorem dX5_fraction_12 : decode cX5_fraction 12 = .ok (.lload_n 0, 1) := by decide +kernel
theorem dX5_fraction_13 : decode cX5_fraction 13 = .ok (.invokestatic 74, 3) := by decide +kernel
theorem dX5_fraction_16 : decode cX5_fraction 16 = .ok (.lstore 5, 2) := by decide +kernel
theorem dX5_fraction_18 : decode cX5_fraction 18 = .ok (.iload 4, 2) := by decide +kernel
theorem dX5_fraction_20 : decode cX5_fraction 20 = .ok (.ifCond .ne 10, 3) := by decide +kernel
theorem dX5_fraction_23 : decode cX5_fraction 23 = .ok (.lload_n 0, 1) := by decide +kernel
theorem dX5_fraction_24 : decode cX5_fraction 24 = .ok (.lload 5, 2) := by decide +kernel
theorem dX5_fraction_26 : decode cX5_fraction 26 = .ok (.ldiv, 1) := by decide +kernel
theorem dX5_fraction_27 : decode cX5_fraction 27 = .ok (.goto 7, 3) := by decide +kernel
theorem dX5_fraction_30 : decode cX5_fraction 30 = .ok (.lload_n 2, 1) := by decide +kernel
theorem dX5_fraction_31 : decode cX5_fraction 31 = .ok (.lload 5, 2) := by decide +kernel
theorem dX5_fraction_33 : decode cX5_fraction 33 = .ok (.ldiv, 1) := by decide +kernel
theorem dX5_fraction_34 : decode cX5_fraction 34 = .ok (.lreturn, 1) := by decide +kernel
set_option maxRecDepth 20000 in
theorem ggX5_isWhat_X5_in : GoodIn wsX5_isWhat wsX5_in := goodIn_r _ [4] (by decide +kernel) (by decide +kernel)
set_option maxRecDepth 20000 in
theorem gX5_isWhat_X5_in : GoodIn wsX5_isWhat (va_wsS RX5 52 yX5_in wsX5_in) := goodIn_app (goodIn_of _ (by decide +kernel)) ggX5_isWhat_X5_in
theorem dX5_isWhat_0 : decode cX5_isWhat 0 = .ok (.iload_n 0, 1) := by decide +kernel
theorem dX5_isWhat_1 : decode cX5_isWhat 1 = .ok (.iconst 0, 1) := by decide +kernel
theorem dX5_isWhat_2 : decode cX5_isWhat 2 = .ok (.iconst 1, 1) := by decide +kernel
theorem dX5_isWhat_3 : decode cX5_isWhat 3 = .ok (.invokestatic 52, 3) := by decide +kernel
theorem dX5_isWhat_6 : decode cX5_isWhat 6 = .ok (.ireturn, 1) := by decide +kernel
set_option maxRecDepth 20000 in
theorem ggX5_chance_X5_isLaw : GoodIn wsX5_chance wsX5_isLaw := goodIn_r _ [7, 8, 9, 10, 6, 11, 12, 13, 14, 33, 34, 35, 36, 37, 38, 39, 40, 41, 42, 43, 44, 45] (by decide +kernel) (by decide +kernel)
set_option maxRecDepth 20000 in
theorem gX5_chance_X5_isLaw : GoodIn wsX5_chance (wsV RX5 94 RX5 yX5_isLaw wsX5_isLaw) := goodIn_app (goodIn_of _ (by decide +kernel)) ggX5_chance_X5_isLaw
set_option maxRecDepth 20000 in
theorem ggX5_chance_X5_isSet : GoodIn wsX5_chance wsX5_isSet := goodIn_r _ [18, 19, 12, 13, 6, 14, 33, 34, 35, 36, 37, 38, 39, 40, 41, 42, 43, 44, 45] (by decide +kernel) (by decide +kernel)
set_option maxRecDepth 20000 in
theorem gX5_chance_X5_isSet : GoodIn wsX5_chance (wsV RX5 67 RX5 yX5_isSet wsX5_isSet) := goodIn_app (goodIn_of _ (by decide +kernel)) ggX5_chance_X5_isSet
set_option maxRecDepth 20000 in
theorem ggX5_chance_X5_isWhat : GoodIn wsX5_chance wsX5_isWhat := goodIn_r _ [22, 12, 13, 6, 14] (by decide +kernel) (by decide +kernel)
set_option maxRecDepth 20000 in
theorem gX5_chance_X5_isWhat : GoodIn wsX5_chance (va_wsS RX5 106 yX5_isWhat wsX5_isWhat) := goodIn_app (goodIn_of _ (by decide +kernel)) ggX5_chance_X5_isWhat
set_option maxRecDepth 20000 in
theorem ggX5_chance_X5_sum : GoodIn wsX5_chance wsX5_sum := goodIn_r _ [26, 19, 1, 33, 34, 35, 36, 37, 38, 39, 40, 41, 42, 43, 44, 45] (by decide +kernel) (by decide +kernel)
set_option maxRecDepth 20000 in
theorem gX5_chance_X5_sum : GoodIn wsX5_chance (wsV RX5 100 RX5 yX5_sum wsX5_sum) := goodIn_app (goodIn_of _ (by decide +kernel)) ggX5_chance_X5_sum
set_option maxRecDepth 20000 in
theorem ggX5_chance_X5_fraction : GoodIn wsX5_chance wsX5_fraction := goodIn_r _ [29, 30, 31, 6, 32] (by decide +kernel) (by decide +kernel)
set_option maxRecDepth 20000 in
theorem gX5_chance_X5_fraction : GoodIn wsX5_chance (va_wsS RX5 109 yX5_fraction wsX5_fraction) := goodIn_app (goodIn_of _ (by decide +kernel)) ggX5_chance_X5_fraction
theorem dX5_chance_0 : decode cX5_chance 0 = .ok (.aload_n 0, 1) := by decide +kernel
theorem dX5_chance_1 : decode cX5_chance 1 = .ok (.iload_n 1, 1) := by decide +kernel
theorem dX5_chance_2 : decode cX5_chance 2 = .ok (.invokevirtual 94, 3) := by decide +kernel
theorem dX5_chance_5 : decode cX5_chance 5 = .ok (.ifCond .eq 41, 3) := by decide +kernel
theorem dX5_chance_8 : decode cX5_chance 8 = .ok (.aload_n 0, 1) := by decide +kernel
theorem dX5_chance_9 : decode cX5_chance 9 = .ok (.iload_n 2, 1) := by decide +kernel
theorem dX5_chance_10 : decode cX5_chance 10 = .ok (.invokevirtual 67, 3) := by decide +kernel
theorem dX5_chance_13 : decode cX5_chance 13 = .ok (.ifCond .eq 33, 3) := by decide +kernel
theorem dX5_chance_16 : decode cX5_chance 16 = .ok (.iload_n 3, 1) := by decide +kernel
theorem dX5_chance_17 : decode cX5_chance 17 = .ok (.invokestatic 106, 3) := by decide +kernel
theorem dX5_chance_20 : decode cX5_chance 20 = .ok (.ifCond .eq 26, 3) := by decide +kernel
theorem dX5_chance_23 : decode cX5_chance 23 = .ok (.aload_n 0, 1) := by decide +kernel
theorem dX5_chance_24 : decode cX5_chance 24 = .ok (.getfield 20, 3) := by decide +kernel
theorem dX5_chance_27 : decode cX5_chance 27 = .ok (.bipush 64, 2) := by decide +kernel
theorem dX5_chance_29 : decode cX5_chance 29 = .ok (.iload_n 1, 1) := by decide +kernel
theorem dX5_chance_30 : decode cX5_chance 30 = .ok (.imul, 1) := by decide +kernel
theorem dX5_chance_31 : decode cX5_chance 31 = .ok (.iload_n 2, 1) := by decide +kernel
theorem dX5_chance_32 : decode cX5_chance 32 = .ok (.iadd, 1) := by decide +kernel
theorem dX5_chance_33 : decode cX5_chance 33 = .ok (.laload, 1) := by decide +kernel
theorem dX5_chance_34 : decode cX5_chance 34 = .ok (.aload_n 0, 1) := by decide +kernel
theorem dX5_chance_35 : decode cX5_chance 35 = .ok (.iload_n 1, 1) := by decide +kernel
theorem dX5_chance_36 : decode cX5_chance 36 = .ok (.invokevirtual 100, 3) := by decide +kernel
theorem dX5_chance_39 : decode cX5_chance 39 = .ok (.iload_n 3, 1) := by decide +kernel
theorem dX5_chance_40 : decode cX5_chance 40 = .ok (.invokestatic 109, 3) := by decide +kernel
theorem dX5_chance_43 : decode cX5_chance 43 = .ok (.goto 6, 3) := by decide +kernel
theorem dX5_chance_46 : decode cX5_chance 46 = .ok (.ldc2_w 104, 3) := by decide +kernel
theorem dX5_chance_49 : decode cX5_chance 49 = .ok (.lreturn, 1) := by decide +kernel
theorem dX5_sumOf_0 : decode cX5_sumOf 0 = .ok (.lconst 0, 1) := by decide +kernel
theorem dX5_sumOf_1 : decode cX5_sumOf 1 = .ok (.lstore 4, 2) := by decide +kernel
theorem dX5_sumOf_3 : decode cX5_sumOf 3 = .ok (.iconst 0, 1) := by decide +kernel
theorem dX5_sumOf_4 : decode cX5_sumOf 4 = .ok (.istore 6, 2) := by decide +kernel
theorem dX5_sumOf_6 : decode cX5_sumOf 6 = .ok (.iload 6, 2) := by decide +kernel
theorem dX5_sumOf_8 : decode cX5_sumOf 8 = .ok (.aload_n 0, 1) := by decide +kernel
theorem dX5_sumOf_9 : decode cX5_sumOf 9 = .ok (.getfield 49, 3) := by decide +kernel
theorem dX5_sumOf_12 : decode cX5_sumOf 12 = .ok (.if_icmp .ge 41, 3) := by decide +kernel
theorem dX5_sumOf_15 : decode cX5_sumOf 15 = .ok (.iload 6, 2) := by decide +kernel
theorem dX5_sumOf_17 : decode cX5_sumOf 17 = .ok (.iload_n 2, 1) := by decide +kernel
theorem dX5_sumOf_18 : decode cX5_sumOf 18 = .ok (.iand, 1) := by decide +kernel
theorem dX5_sumOf_19 : decode cX5_sumOf 19 = .ok (.iload_n 2, 1) := by decide +kernel
theorem dX5_sumOf_20 : decode cX5_sumOf 20 = .ok (.if_icmp .ne 27, 3) := by decide +kernel
theorem dX5_sumOf_23 : decode cX5_sumOf 23 = .ok (.iload 6, 2) := by decide +kernel
theorem dX5_sumOf_25 : decode cX5_sumOf 25 = .ok (.iload_n 3, 1) := by decide +kernel
theorem dX5_sumOf_26 : decode cX5_sumOf 26 = .ok (.iand, 1) := by decide +kernel
theorem dX5_sumOf_27 : decode cX5_sumOf 27 = .ok (.ifCond .ne 20, 3) := by decide +kernel
theorem dX5_sumOf_30 : decode cX5_sumOf 30 = .ok (.lload 4, 2) := by decide +kernel
theorem dX5_sumOf_32 : decode cX5_sumOf 32 = .ok (.aload_n 0, 1) := by decide +kernel
theorem dX5_sumOf_33 : decode cX5_sumOf 33 = .ok (.getfield 20, 3) := by decide +kernel
theorem dX5_sumOf_36 : decode cX5_sumOf 36 = .ok (.bipush 64, 2) := by decide +kernel
theorem dX5_sumOf_38 : decode cX5_sumOf 38 = .ok (.iload_n 1, 1) := by decide +kernel
theorem dX5_sumOf_39 : decode cX5_sumOf 39 = .ok (.imul, 1) := by decide +kernel
theorem dX5_sumOf_40 : decode cX5_sumOf 40 = .ok (.iload 6, 2) := by decide +kernel
theorem dX5_sumOf_42 : decode cX5_sumOf 42 = .ok (.iadd, 1) := by decide +kernel
theorem dX5_sumOf_43 : decode cX5_sumOf 43 = .ok (.laload, 1) := by decide +kernel
theorem dX5_sumOf_44 : decode cX5_sumOf 44 = .ok (.ladd, 1) := by decide +kernel
theorem dX5_sumOf_45 : decode cX5_sumOf 45 = .ok (.lstore 4, 2) := by decide +kernel
theorem dX5_sumOf_47 : decode cX5_sumOf 47 = .ok (.iinc 6 1, 3) := by decide +kernel
theorem dX5_sumOf_50 : decode cX5_sumOf 50 = .ok (.goto (-44), 3) := by decide +kernel
theorem dX5_sumOf_53 : decode cX5_sumOf 53 = .ok (.lload 4, 2) := by decide +kernel
theorem dX5_sumOf_55 : decode cX5_sumOf 55 = .ok (.lreturn, 1) := by decide +kernel
set_option maxRecDepth 20000 in
theorem ggX5_within_X5_isLaw : GoodIn wsX5_within wsX5_isLaw := goodIn_r _ [6, 7, 8, 9, 5, 10, 11, 12, 13, 37, 38, 39, 40, 41, 42, 43, 44, 45, 46, 47, 48, 49] (by decide +kernel) (by decide +kernel)
set_option maxRecDepth 20000 in
theorem gX5_within_X5_isLaw : GoodIn wsX5_within (wsV RX5 94 RX5 yX5_isLaw wsX5_isLaw) := goodIn_app (goodIn_of _ (by decide +kernel)) ggX5_within_X5_isLaw
set_option maxRecDepth 20000 in
theorem ggX5_within_X5_isSet : GoodIn wsX5_within wsX5_isSet := goodIn_r _ [17, 18, 11, 12, 5, 13, 37, 38, 39, 40, 41, 42, 43, 44, 45, 46, 47, 48, 49] (by decide +kernel) (by decide +kernel)
set_option maxRecDepth 20000 in
theorem gX5_within_X5_isSet : GoodIn wsX5_within (wsV RX5 67 RX5 yX5_isSet wsX5_isSet) := goodIn_app (goodIn_of _ (by decide +kernel)) ggX5_within_X5_isSet
set_option maxRecDepth 20000 in
theorem ggX5_within_X5_isWhat : GoodIn wsX5_within wsX5_isWhat := goodIn_r _ [21, 11, 12, 5, 13] (by decide +kernel) (by decide +kernel)
set_option maxRecDepth 20000 in
theorem gX5_within_X5_isWhat : GoodIn wsX5_within (va_wsS RX5 106 yX5_isWhat wsX5_isWhat) := goodIn_app (goodIn_of _ (by decide +kernel)) ggX5_within_X5_isWhat
set_option maxRecDepth 20000 in
theorem ggX5_within_X5_sumOf : GoodIn wsX5_within wsX5_sumOf := goodIn_r _ [25, 18, 26, 37, 38, 39, 40, 41, 42, 43, 44, 45, 46, 47, 48, 49] (by decide +kernel) (by decide +kernel)
set_option maxRecDepth 20000 in
theorem gX5_within_X5_sumOf : GoodIn wsX5_within (wsV RX5 113 RX5 yX5_sumOf wsX5_sumOf) := goodIn_app (goodIn_of _ (by decide +kernel)) ggX5_within_X5_sumOf
set_option maxRecDepth 20000 in
theorem ggX5_within_X5_sum : GoodIn wsX5_within wsX5_sum := goodIn_r _ [30, 18, 26, 37, 38, 39, 40, 41, 42, 43, 44, 45, 46, 47, 48, 49] (by decide +kernel) (by decide +kernel)
set_option maxRecDepth 20000 in
theorem gX5_within_X5_sum : GoodIn wsX5_within (wsV RX5 100 RX5 yX5_sum wsX5_sum) := goodIn_app (goodIn_of _ (by decide +kernel)) ggX5_within_X5_sum
set_option maxRecDepth 20000 in
theorem ggX5_within_X5_fraction : GoodIn wsX5_within wsX5_fraction := goodIn_r _ [33, 34, 35, 5, 36] (by decide +kernel) (by decide +kernel)
set_option maxRecDepth 20000 in
theorem gX5_within_X5_fraction : GoodIn wsX5_within (va_wsS RX5 109 yX5_fraction wsX5_fraction) := goodIn_app (goodIn_of _ (by decide +kernel)) ggX5_within_X5_fraction
theorem dX5_within_0 : decode cX5_within 0 = .ok (.aload_n 0, 1) := by decide +kernel
theorem dX5_within_1 : decode cX5_within 1 = .ok (.iload_n 1, 1) := by decide +kernel
theorem dX5_within_2 : decode cX5_within 2 = .ok (.invokevirtual 94, 3) := by decide +kernel
theorem dX5_within_5 : decode cX5_within 5 = .ok (.ifCond .eq 37, 3) := by decide +kernel
theorem dX5_within_8 : decode cX5_within 8 = .ok (.aload_n 0, 1) := by decide +kernel
theorem dX5_within_9 : decode cX5_within 9 = .ok (.iload_n 2, 1) := by decide +kernel
theorem dX5_within_10 : decode cX5_within 10 = .ok (.invokevirtual 67, 3) := by decide +kernel
theorem dX5_within_13 : decode cX5_within 13 = .ok (.ifCond .eq 29, 3) := by decide +kernel
theorem dX5_within_16 : decode cX5_within 16 = .ok (.iload_n 3, 1) := by decide +kernel
theorem dX5_within_17 : decode cX5_within 17 = .ok (.invokestatic 106, 3) := by decide +kernel
theorem dX5_within_20 : decode cX5_within 20 = .ok (.ifCond .eq 22, 3) := by decide +kernel
theorem dX5_within_23 : decode cX5_within 23 = .ok (.aload_n 0, 1) := by decide +kernel
theorem dX5_within_24 : decode cX5_within 24 = .ok (.iload_n 1, 1) := by decide +kernel
theorem dX5_within_25 : decode cX5_within 25 = .ok (.iload_n 2, 1) := by decide +kernel
theorem dX5_within_26 : decode cX5_within 26 = .ok (.iconst 0, 1) := by decide +kernel
theorem dX5_within_27 : decode cX5_within 27 = .ok (.invokevirtual 113, 3) := by decide +kernel
theorem dX5_within_30 : decode cX5_within 30 = .ok (.aload_n 0, 1) := by decide +kernel
theorem dX5_within_31 : decode cX5_within 31 = .ok (.iload_n 1, 1) := by decide +kernel
theorem dX5_within_32 : decode cX5_within 32 = .ok (.invokevirtual 100, 3) := by decide +kernel
theorem dX5_within_35 : decode cX5_within 35 = .ok (.iload_n 3, 1) := by decide +kernel
theorem dX5_within_36 : decode cX5_within 36 = .ok (.invokestatic 109, 3) := by decide +kernel
theorem dX5_within_39 : decode cX5_within 39 = .ok (.goto 6, 3) := by decide +kernel
theorem dX5_within_42 : decode cX5_within 42 = .ok (.ldc2_w 104, 3) := by decide +kernel
theorem dX5_within_45 : decode cX5_within 45 = .ok (.lreturn, 1) := by decide +kernel
set_option maxRecDepth 20000 in
theorem ggX5_out_X5_isLaw : GoodIn wsX5_out wsX5_isLaw := goodIn_r _ [6, 7, 8, 9, 5, 10, 11, 12, 13, 37, 38, 39, 40, 41, 42, 43, 44, 45, 46, 47, 48, 49] (by decide +kernel) (by decide +kernel)
set_option maxRecDepth 20000 in
theorem gX5_out_X5_isLaw : GoodIn wsX5_out (wsV RX5 94 RX5 yX5_isLaw wsX5_isLaw) := goodIn_app (goodIn_of _ (by decide +kernel)) ggX5_out_X5_isLaw
set_option maxRecDepth 20000 in
theorem ggX5_out_X5_isSet : GoodIn wsX5_out wsX5_isSet := goodIn_r _ [17, 18, 11, 12, 5, 13, 37, 38, 39, 40, 41, 42, 43, 44, 45, 46, 47, 48, 49] (by decide +kernel) (by decide +kernel)
set_option maxRecDepth 20000 in
theorem gX5_out_X5_isSet : GoodIn wsX5_out (wsV RX5 67 RX5 yX5_isSet wsX5_isSet) := goodIn_app (goodIn_of _ (by decide +kernel)) ggX5_out_X5_isSet
set_option maxRecDepth 20000 in
theorem ggX5_out_X5_isWhat : GoodIn wsX5_out wsX5_isWhat := goodIn_r _ [21, 11, 12, 5, 13] (by decide +kernel) (by decide +kernel)
set_option maxRecDepth 20000 in
theorem gX5_out_X5_isWhat : GoodIn wsX5_out (va_wsS RX5 106 yX5_isWhat wsX5_isWhat) := goodIn_app (goodIn_of _ (by decide +kernel)) ggX5_out_X5_isWhat
set_option maxRecDepth 20000 in
theorem ggX5_out_X5_sumOf : GoodIn wsX5_out wsX5_sumOf := goodIn_r _ [25, 18, 26, 37, 38, 39, 40, 41, 42, 43, 44, 45, 46, 47, 48, 49] (by decide +kernel) (by decide +kernel)
set_option maxRecDepth 20000 in
theorem gX5_out_X5_sumOf : GoodIn wsX5_out (wsV RX5 113 RX5 yX5_sumOf wsX5_sumOf) := goodIn_app (goodIn_of _ (by decide +kernel)) ggX5_out_X5_sumOf
set_option maxRecDepth 20000 in
theorem ggX5_out_X5_sum : GoodIn wsX5_out wsX5_sum := goodIn_r _ [30, 18, 26, 37, 38, 39, 40, 41, 42, 43, 44, 45, 46, 47, 48, 49] (by decide +kernel) (by decide +kernel)
set_option maxRecDepth 20000 in
theorem gX5_out_X5_sum : GoodIn wsX5_out (wsV RX5 100 RX5 yX5_sum wsX5_sum) := goodIn_app (goodIn_of _ (by decide +kernel)) ggX5_out_X5_sum
set_option maxRecDepth 20000 in
theorem ggX5_out_X5_fraction : GoodIn wsX5_out wsX5_fraction := goodIn_r _ [33, 34, 35, 5, 36] (by decide +kernel) (by decide +kernel)
set_option maxRecDepth 20000 in
theorem gX5_out_X5_fraction : GoodIn wsX5_out (va_wsS RX5 109 yX5_fraction wsX5_fraction) := goodIn_app (goodIn_of _ (by decide +kernel)) ggX5_out_X5_fraction
theorem dX5_out_0 : decode cX5_out 0 = .ok (.aload_n 0, 1) := by decide +kernel
theorem dX5_out_1 : decode cX5_out 1 = .ok (.iload_n 1, 1) := by decide +kernel
theorem dX5_out_2 : decode cX5_out 2 = .ok (.invokevirtual 94, 3) := by decide +kernel
theorem dX5_out_5 : decode cX5_out 5 = .ok (.ifCond .eq 37, 3) := by decide +kernel
theorem dX5_out_8 : decode cX5_out 8 = .ok (.aload_n 0, 1) := by decide +kernel
theorem dX5_out_9 : decode cX5_out 9 = .ok (.iload_n 2, 1) := by decide +kernel
theorem dX5_out_10 : decode cX5_out 10 = .ok (.invokevirtual 67, 3) := by decide +kernel
theorem dX5_out_13 : decode cX5_out 13 = .ok (.ifCond .eq 29, 3) := by decide +kernel
theorem dX5_out_16 : decode cX5_out 16 = .ok (.iload_n 3, 1) := by decide +kernel
theorem dX5_out_17 : decode cX5_out 17 = .ok (.invokestatic 106, 3) := by decide +kernel
theorem dX5_out_20 : decode cX5_out 20 = .ok (.ifCond .eq 22, 3) := by decide +kernel
theorem dX5_out_23 : decode cX5_out 23 = .ok (.aload_n 0, 1) := by decide +kernel
theorem dX5_out_24 : decode cX5_out 24 = .ok (.iload_n 1, 1) := by decide +kernel
theorem dX5_out_25 : decode cX5_out 25 = .ok (.iconst 0, 1) := by decide +kernel
theorem dX5_out_26 : decode cX5_out 26 = .ok (.iload_n 2, 1) := by decide +kernel
theorem dX5_out_27 : decode cX5_out 27 = .ok (.invokevirtual 113, 3) := by decide +kernel
theorem dX5_out_30 : decode cX5_out 30 = .ok (.aload_n 0, 1) := by decide +kernel
theorem dX5_out_31 : decode cX5_out 31 = .ok (.iload_n 1, 1) := by decide +kernel
theorem dX5_out_32 : decode cX5_out 32 = .ok (.invokevirtual 100, 3) := by decide +kernel
theorem dX5_out_35 : decode cX5_out 35 = .ok (.iload_n 3, 1) := by decide +kernel
theorem dX5_out_36 : decode cX5_out 36 = .ok (.invokestatic 109, 3) := by decide +kernel
theorem dX5_out_39 : decode cX5_out 39 = .ok (.goto 6, 3) := by decide +kernel
theorem dX5_out_42 : decode cX5_out 42 = .ok (.ldc2_w 104, 3) := by decide +kernel
theorem dX5_out_45 : decode cX5_out 45 = .ok (.lreturn, 1) := by decide +kernel
set_option maxRecDepth 20000 in
theorem ggX5_ofSize_X5_sizeOf : GoodIn wsX5_ofSize wsX5_sizeOf := goodIn_r _ [6] (by decide +kernel) (by decide +kernel)
set_option maxRecDepth 20000 in
theorem gX5_ofSize_X5_sizeOf : GoodIn wsX5_ofSize (va_wsS RX5 63 yX5_sizeOf wsX5_sizeOf) := goodIn_app (goodIn_of _ (by decide +kernel)) ggX5_ofSize_X5_sizeOf
theorem dX5_ofSize_0 : decode cX5_ofSize 0 = .ok (.lconst 0, 1) := by decide +kernel
theorem dX5_ofSize_1 : decode cX5_ofSize 1 = .ok (.lstore_n 3, 1) := by decide +kernel
theorem dX5_ofSize_2 : decode cX5_ofSize 2 = .ok (.iconst 0, 1) := by decide +kernel
theorem dX5_ofSize_3 : decode cX5_ofSize 3 = .ok (.istore 5, 2) := by decide +kernel
theorem dX5_ofSize_5 : decode cX5_ofSize 5 = .ok (.iload 5, 2) := by decide +kernel
theorem dX5_ofSize_7 : decode cX5_ofSize 7 = .ok (.aload_n 0, 1) := by decide +kernel
theorem dX5_ofSize_8 : decode cX5_ofSize 8 = .ok (.getfield 49, 3) := by decide +kernel
theorem dX5_ofSize_11 : decode cX5_ofSize 11 = .ok (.if_icmp .ge 33, 3) := by decide +kernel
theorem dX5_ofSize_14 : decode cX5_ofSize 14 = .ok (.iload 5, 2) := by decide +kernel
theorem dX5_ofSize_16 : decode cX5_ofSize 16 = .ok (.invokestatic 63, 3) := by decide +kernel
theorem dX5_ofSize_19 : decode cX5_ofSize 19 = .ok (.iload_n 2, 1) := by decide +kernel
theorem dX5_ofSize_20 : decode cX5_ofSize 20 = .ok (.if_icmp .ne 18, 3) := by decide +kernel
theorem dX5_ofSize_23 : decode cX5_ofSize 23 = .ok (.lload_n 3, 1) := by decide +kernel
theorem dX5_ofSize_24 : decode cX5_ofSize 24 = .ok (.aload_n 0, 1) := by decide +kernel
theorem dX5_ofSize_25 : decode cX5_ofSize 25 = .ok (.getfield 20, 3) := by decide +kernel
theorem dX5_ofSize_28 : decode cX5_ofSize 28 = .ok (.bipush 64, 2) := by decide +kernel
theorem dX5_ofSize_30 : decode cX5_ofSize 30 = .ok (.iload_n 1, 1) := by decide +kernel
theorem dX5_ofSize_31 : decode cX5_ofSize 31 = .ok (.imul, 1) := by decide +kernel
theorem dX5_ofSize_32 : decode cX5_ofSize 32 = .ok (.iload 5, 2) := by decide +kernel
theorem dX5_ofSize_34 : decode cX5_ofSize 34 = .ok (.iadd, 1) := by decide +kernel
theorem dX5_ofSize_35 : decode cX5_ofSize 35 = .ok (.laload, 1) := by decide +kernel
theorem dX5_ofSize_36 : decode cX5_ofSize 36 = .ok (.ladd, 1) := by decide +kernel
theorem dX5_ofSize_37 : decode cX5_ofSize 37 = .ok (.lstore_n 3, 1) := by decide +kernel
theorem dX5_ofSize_38 : decode cX5_ofSize 38 = .ok (.iinc 5 1, 3) := by decide +kernel
theorem dX5_ofSize_41 : decode cX5_ofSize 41 = .ok (.goto (-36), 3) := by decide +kernel
theorem dX5_ofSize_44 : decode cX5_ofSize 44 = .ok (.lload_n 3, 1) := by decide +kernel
theorem dX5_ofSize_45 : decode cX5_ofSize 45 = .ok (.lreturn, 1) := by decide +kernel
set_option maxRecDepth 20000 in
theorem ggX5_size_X5_isLaw : GoodIn wsX5_size wsX5_isLaw := goodIn_r _ [7, 8, 9, 10, 6, 11, 12, 13, 14, 37, 38, 39, 40, 41, 42, 43, 44, 45, 46, 47, 48, 49] (by decide +kernel) (by decide +kernel)
set_option maxRecDepth 20000 in
theorem gX5_size_X5_isLaw : GoodIn wsX5_size (wsV RX5 94 RX5 yX5_isLaw wsX5_isLaw) := goodIn_app (goodIn_of _ (by decide +kernel)) ggX5_size_X5_isLaw
set_option maxRecDepth 20000 in
theorem ggX5_size_X5_in : GoodIn wsX5_size wsX5_in := goodIn_r _ [14] (by decide +kernel) (by decide +kernel)
set_option maxRecDepth 20000 in
theorem gX5_size_X5_in : GoodIn wsX5_size (va_wsS RX5 52 yX5_in wsX5_in) := goodIn_app (goodIn_of _ (by decide +kernel)) ggX5_size_X5_in
set_option maxRecDepth 20000 in
theorem ggX5_size_X5_isWhat : GoodIn wsX5_size wsX5_isWhat := goodIn_r _ [17, 12, 13, 6, 14] (by decide +kernel) (by decide +kernel)
set_option maxRecDepth 20000 in
theorem gX5_size_X5_isWhat : GoodIn wsX5_size (va_wsS RX5 106 yX5_isWhat wsX5_isWhat) := goodIn_app (goodIn_of _ (by decide +kernel)) ggX5_size_X5_isWhat
set_option maxRecDepth 20000 in
theorem ggX5_size_X5_ofSize : GoodIn wsX5_size wsX5_ofSize := goodIn_r _ [21, 22, 23, 24, 25, 6, 26, 37, 38, 39, 40, 41, 42, 43, 44, 45, 46, 47, 48, 49] (by decide +kernel) (by decide +kernel)
set_option maxRecDepth 20000 in
theorem gX5_size_X5_ofSize : GoodIn wsX5_size (wsV RX5 116 RX5 yX5_ofSize wsX5_ofSize) := goodIn_app (goodIn_of _ (by decide +kernel)) ggX5_size_X5_ofSize
set_option maxRecDepth 20000 in
theorem ggX5_size_X5_sum : GoodIn wsX5_size wsX5_sum := goodIn_r _ [30, 22, 23, 37, 38, 39, 40, 41, 42, 43, 44, 45, 46, 47, 48, 49] (by decide +kernel) (by decide +kernel)
set_option maxRecDepth 20000 in
theorem gX5_size_X5_sum : GoodIn wsX5_size (wsV RX5 100 RX5 yX5_sum wsX5_sum) := goodIn_app (goodIn_of _ (by decide +kernel)) ggX5_size_X5_sum
set_option maxRecDepth 20000 in
theorem ggX5_size_X5_fraction : GoodIn wsX5_size wsX5_fraction := goodIn_r _ [33, 34, 35, 6, 36] (by decide +kernel) (by decide +kernel)
set_option maxRecDepth 20000 in
theorem gX5_size_X5_fraction : GoodIn wsX5_size (va_wsS RX5 109 yX5_fraction wsX5_fraction) := goodIn_app (goodIn_of _ (by decide +kernel)) ggX5_size_X5_fraction
theorem dX5_size_0 : decode cX5_size 0 = .ok (.aload_n 0, 1) := by decide +kernel
theorem dX5_size_1 : decode cX5_size 1 = .ok (.iload_n 1, 1) := by decide +kernel
theorem dX5_size_2 : decode cX5_size 2 = .ok (.invokevirtual 94, 3) := by decide +kernel
theorem dX5_size_5 : decode cX5_size 5 = .ok (.ifCond .eq 40, 3) := by decide +kernel
theorem dX5_size_8 : decode cX5_size 8 = .ok (.iload_n 2, 1) := by decide +kernel
theorem dX5_size_9 : decode cX5_size 9 = .ok (.iconst 0, 1) := by decide +kernel
theorem dX5_size_10 : decode cX5_size 10 = .ok (.aload_n 0, 1) := by decide +kernel
theorem dX5_size_11 : decode cX5_size 11 = .ok (.getfield 45, 3) := by decide +kernel
theorem dX5_size_14 : decode cX5_size 14 = .ok (.invokestatic 52, 3) := by decide +kernel
theorem dX5_size_17 : decode cX5_size 17 = .ok (.ifCond .eq 28, 3) := by decide +kernel
theorem dX5_size_20 : decode cX5_size 20 = .ok (.iload_n 3, 1) := by decide +kernel
theorem dX5_size_21 : decode cX5_size 21 = .ok (.invokestatic 106, 3) := by decide +kernel
theorem dX5_size_24 : decode cX5_size 24 = .ok (.ifCond .eq 21, 3) := by decide +kernel
theorem dX5_size_27 : decode cX5_size 27 = .ok (.aload_n 0, 1) := by decide +kernel
theorem dX5_size_28 : decode cX5_size 28 = .ok (.iload_n 1, 1) := by decide +kernel
theorem dX5_size_29 : decode cX5_size 29 = .ok (.iload_n 2, 1) := by decide +kernel
theorem dX5_size_30 : decode cX5_size 30 = .ok (.invokevirtual 116, 3) := by decide +kernel
theorem dX5_size_33 : decode cX5_size 33 = .ok (.aload_n 0, 1) := by decide +kernel
theorem dX5_size_34 : decode cX5_size 34 = .ok (.iload_n 1, 1) := by decide +kernel
theorem dX5_size_35 : decode cX5_size 35 = .ok (.invokevirtual 100, 3) := by decide +kernel
theorem dX5_size_38 : decode cX5_size 38 = .ok (.iload_n 3, 1) := by decide +kernel
theorem dX5_size_39 : decode cX5_size 39 = .ok (.invokestatic 109, 3) := by decide +kernel
theorem dX5_size_42 : decode cX5_size 42 = .ok (.goto 6, 3) := by decide +kernel
theorem dX5_size_45 : decode cX5_size 45 = .ok (.ldc2_w 104, 3) := by decide +kernel
theorem dX5_size_48 : decode cX5_size 48 = .ok (.lreturn, 1) := by decide +kernel
set_option maxRecDepth 20000 in
theorem ggX5_mean_X5_isLaw : GoodIn wsX5_mean wsX5_isLaw := goodIn_r _ [7, 8, 9, 10, 6, 11, 12, 13, 14, 37, 38, 39, 40, 41, 42, 43, 44, 45, 46, 47, 48, 49] (by decide +kernel) (by decide +kernel)
set_option maxRecDepth 20000 in
theorem gX5_mean_X5_isLaw : GoodIn wsX5_mean (wsV RX5 94 RX5 yX5_isLaw wsX5_isLaw) := goodIn_app (goodIn_of _ (by decide +kernel)) ggX5_mean_X5_isLaw
set_option maxRecDepth 20000 in
theorem ggX5_mean_X5_isWhat : GoodIn wsX5_mean wsX5_isWhat := goodIn_r _ [17, 12, 13, 6, 14] (by decide +kernel) (by decide +kernel)
set_option maxRecDepth 20000 in
theorem gX5_mean_X5_isWhat : GoodIn wsX5_mean (va_wsS RX5 106 yX5_isWhat wsX5_isWhat) := goodIn_app (goodIn_of _ (by decide +kernel)) ggX5_mean_X5_isWhat
set_option maxRecDepth 20000 in
theorem ggX5_mean_X5_ofSize : GoodIn wsX5_mean wsX5_ofSize := goodIn_r _ [21, 22, 23, 24, 25, 6, 26, 37, 38, 39, 40, 41, 42, 43, 44, 45, 46, 47, 48, 49] (by decide +kernel) (by decide +kernel)
set_option maxRecDepth 20000 in
theorem gX5_mean_X5_ofSize : GoodIn wsX5_mean (wsV RX5 116 RX5 yX5_ofSize wsX5_ofSize) := goodIn_app (goodIn_of _ (by decide +kernel)) ggX5_mean_X5_ofSize
set_option maxRecDepth 20000 in
theorem ggX5_mean_X5_sum : GoodIn wsX5_mean wsX5_sum := goodIn_r _ [30, 22, 23, 37, 38, 39, 40, 41, 42, 43, 44, 45, 46, 47, 48, 49] (by decide +kernel) (by decide +kernel)
set_option maxRecDepth 20000 in
theorem gX5_mean_X5_sum : GoodIn wsX5_mean (wsV RX5 100 RX5 yX5_sum wsX5_sum) := goodIn_app (goodIn_of _ (by decide +kernel)) ggX5_mean_X5_sum
set_option maxRecDepth 20000 in
theorem ggX5_mean_X5_fraction : GoodIn wsX5_mean wsX5_fraction := goodIn_r _ [33, 34, 35, 6, 36] (by decide +kernel) (by decide +kernel)
set_option maxRecDepth 20000 in
theorem gX5_mean_X5_fraction : GoodIn wsX5_mean (va_wsS RX5 109 yX5_fraction wsX5_fraction) := goodIn_app (goodIn_of _ (by decide +kernel)) ggX5_mean_X5_fraction
theorem dX5_mean_0 : decode cX5_mean 0 = .ok (.aload_n 0, 1) := by decide +kernel
theorem dX5_mean_1 : decode cX5_mean 1 = .ok (.iload_n 1, 1) := by decide +kernel
theorem dX5_mean_2 : decode cX5_mean 2 = .ok (.invokevirtual 94, 3) := by decide +kernel
theorem dX5_mean_5 : decode cX5_mean 5 = .ok (.ifCond .eq 10, 3) := by decide +kernel
theorem dX5_mean_8 : decode cX5_mean 8 = .ok (.iload_n 2, 1) := by decide +kernel
theorem dX5_mean_9 : decode cX5_mean 9 = .ok (.invokestatic 106, 3) := by decide +kernel
theorem dX5_mean_12 : decode cX5_mean 12 = .ok (.ifCond .ne 7, 3) := by decide +kernel
theorem dX5_mean_15 : decode cX5_mean 15 = .ok (.ldc2_w 104, 3) := by decide +kernel
theorem dX5_mean_18 : decode cX5_mean 18 = .ok (.lreturn, 1) := by decide +kernel
theorem dX5_mean_19 : decode cX5_mean 19 = .ok (.lconst 0, 1) := by decide +kernel
theorem dX5_mean_20 : decode cX5_mean 20 = .ok (.lstore_n 3, 1) := by decide +kernel
theorem dX5_mean_21 : decode cX5_mean 21 = .ok (.iconst 0, 1) := by decide +kernel
theorem dX5_mean_22 : decode cX5_mean 22 = .ok (.istore 5, 2) := by decide +kernel
theorem dX5_mean_24 : decode cX5_mean 24 = .ok (.iload 5, 2) := by decide +kernel
theorem dX5_mean_26 : decode cX5_mean 26 = .ok (.aload_n 0, 1) := by decide +kernel
theorem dX5_mean_27 : decode cX5_mean 27 = .ok (.getfield 45, 3) := by decide +kernel
theorem dX5_mean_30 : decode cX5_mean 30 = .ok (.if_icmp .gt 23, 3) := by decide +kernel
theorem dX5_mean_33 : decode cX5_mean 33 = .ok (.lload_n 3, 1) := by decide +kernel
theorem dX5_mean_34 : decode cX5_mean 34 = .ok (.iload 5, 2) := by decide +kernel
theorem dX5_mean_36 : decode cX5_mean 36 = .ok (.i2l, 1) := by decide +kernel
theorem dX5_mean_37 : decode cX5_mean 37 = .ok (.aload_n 0, 1) := by decide +kernel
theorem dX5_mean_38 : decode cX5_mean 38 = .ok (.iload_n 1, 1) := by decide +kernel
theorem dX5_mean_39 : decode cX5_mean 39 = .ok (.iload 5, 2) := by decide +kernel
theorem dX5_mean_41 : decode cX5_mean 41 = .ok (.invokevirtual 116, 3) := by decide +kernel
theorem dX5_mean_44 : decode cX5_mean 44 = .ok (.lmul, 1) := by decide +kernel
theorem dX5_mean_45 : decode cX5_mean 45 = .ok (.ladd, 1) := by decide +kernel
theorem dX5_mean_46 : decode cX5_mean 46 = .ok (.lstore_n 3, 1) := by decide +kernel
theorem dX5_mean_47 : decode cX5_mean 47 = .ok (.iinc 5 1, 3) := by decide +kernel
theorem dX5_mean_50 : decode cX5_mean 50 = .ok (.goto (-26), 3) := by decide +kernel
theorem dX5_mean_53 : decode cX5_mean 53 = .ok (.lload_n 3, 1) := by decide +kernel
theorem dX5_mean_54 : decode cX5_mean 54 = .ok (.aload_n 0, 1) := by decide +kernel
theorem dX5_mean_55 : decode cX5_mean 55 = .ok (.iload_n 1, 1) := by decide +kernel
theorem dX5_mean_56 : decode cX5_mean 56 = .ok (.invokevirtual 100, 3) := by decide +kernel
theorem dX5_mean_59 : decode cX5_mean 59 = .ok (.iload_n 2, 1) := by decide +kernel
theorem dX5_mean_60 : decode cX5_mean 60 = .ok (.invokestatic 109, 3) := by decide +kernel
theorem dX5_mean_63 : decode cX5_mean 63 = .ok (.lreturn, 1) := by decide +kernel
set_option maxRecDepth 20000 in
theorem ggX5_spread_X5_isLaw : GoodIn wsX5_spread wsX5_isLaw := goodIn_r _ [7, 8, 9, 10, 6, 11, 12, 13, 14, 37, 38, 39, 40, 41, 42, 43, 44, 45, 46, 47, 48, 49] (by decide +kernel) (by decide +kernel)
set_option maxRecDepth 20000 in
theorem gX5_spread_X5_isLaw : GoodIn wsX5_spread (wsV RX5 94 RX5 yX5_isLaw wsX5_isLaw) := goodIn_app (goodIn_of _ (by decide +kernel)) ggX5_spread_X5_isLaw
set_option maxRecDepth 20000 in
theorem ggX5_spread_X5_isWhat : GoodIn wsX5_spread wsX5_isWhat := goodIn_r _ [17, 12, 13, 6, 14] (by decide +kernel) (by decide +kernel)
set_option maxRecDepth 20000 in
theorem gX5_spread_X5_isWhat : GoodIn wsX5_spread (va_wsS RX5 106 yX5_isWhat wsX5_isWhat) := goodIn_app (goodIn_of _ (by decide +kernel)) ggX5_spread_X5_isWhat
set_option maxRecDepth 20000 in
theorem ggX5_spread_X5_ofSize : GoodIn wsX5_spread wsX5_ofSize := goodIn_r _ [21, 22, 23, 24, 25, 6, 26, 37, 38, 39, 40, 41, 42, 43, 44, 45, 46, 47, 48, 49] (by decide +kernel) (by decide +kernel)
set_option maxRecDepth 20000 in
theorem gX5_spread_X5_ofSize : GoodIn wsX5_spread (wsV RX5 116 RX5 yX5_ofSize wsX5_ofSize) := goodIn_app (goodIn_of _ (by decide +kernel)) ggX5_spread_X5_ofSize
set_option maxRecDepth 20000 in
theorem ggX5_spread_X5_sum : GoodIn wsX5_spread wsX5_sum := goodIn_r _ [30, 22, 23, 37, 38, 39, 40, 41, 42, 43, 44, 45, 46, 47, 48, 49] (by decide +kernel) (by decide +kernel)
set_option maxRecDepth 20000 in
theorem gX5_spread_X5_sum : GoodIn wsX5_spread (wsV RX5 100 RX5 yX5_sum wsX5_sum) := goodIn_app (goodIn_of _ (by decide +kernel)) ggX5_spread_X5_sum
set_option maxRecDepth 20000 in
theorem ggX5_spread_X5_fraction : GoodIn wsX5_spread wsX5_fraction := goodIn_r _ [33, 34, 35, 6, 36] (by decide +kernel) (by decide +kernel)
set_option maxRecDepth 20000 in
theorem gX5_spread_X5_fraction : GoodIn wsX5_spread (va_wsS RX5 109 yX5_fraction wsX5_fraction) := goodIn_app (goodIn_of _ (by decide +kernel)) ggX5_spread_X5_fraction
theorem dX5_spread_0 : decode cX5_spread 0 = .ok (.aload_n 0, 1) := by decide +kernel
theorem dX5_spread_1 : decode cX5_spread 1 = .ok (.iload_n 1, 1) := by decide +kernel
theorem dX5_spread_2 : decode cX5_spread 2 = .ok (.invokevirtual 94, 3) := by decide +kernel
theorem dX5_spread_5 : decode cX5_spread 5 = .ok (.ifCond .eq 10, 3) := by decide +kernel
theorem dX5_spread_8 : decode cX5_spread 8 = .ok (.iload_n 2, 1) := by decide +kernel
theorem dX5_spread_9 : decode cX5_spread 9 = .ok (.invokestatic 106, 3) := by decide +kernel
theorem dX5_spread_12 : decode cX5_spread 12 = .ok (.ifCond .ne 7, 3) := by decide +kernel
theorem dX5_spread_15 : decode cX5_spread 15 = .ok (.ldc2_w 104, 3) := by decide +kernel
theorem dX5_spread_18 : decode cX5_spread 18 = .ok (.lreturn, 1) := by decide +kernel
theorem dX5_spread_19 : decode cX5_spread 19 = .ok (.lconst 0, 1) := by decide +kernel
theorem dX5_spread_20 : decode cX5_spread 20 = .ok (.lstore_n 3, 1) := by decide +kernel
theorem dX5_spread_21 : decode cX5_spread 21 = .ok (.lconst 0, 1) := by decide +kernel
theorem dX5_spread_22 : decode cX5_spread 22 = .ok (.lstore 5, 2) := by decide +kernel
theorem dX5_spread_24 : decode cX5_spread 24 = .ok (.iconst 0, 1) := by decide +kernel
theorem dX5_spread_25 : decode cX5_spread 25 = .ok (.istore 7, 2) := by decide +kernel
theorem dX5_spread_27 : decode cX5_spread 27 = .ok (.iload 7, 2) := by decide +kernel
theorem dX5_spread_29 : decode cX5_spread 29 = .ok (.aload_n 0, 1) := by decide +kernel
theorem dX5_spread_30 : decode cX5_spread 30 = .ok (.getfield 45, 3) := by decide +kernel
theorem dX5_spread_33 : decode cX5_spread 33 = .ok (.if_icmp .gt 42, 3) := by decide +kernel
theorem dX5_spread_36 : decode cX5_spread 36 = .ok (.lload_n 3, 1) := by decide +kernel
theorem dX5_spread_37 : decode cX5_spread 37 = .ok (.iload 7, 2) := by decide +kernel
theorem dX5_spread_39 : decode cX5_spread 39 = .ok (.i2l, 1) := by decide +kernel
theorem dX5_spread_40 : decode cX5_spread 40 = .ok (.aload_n 0, 1) := by decide +kernel
theorem dX5_spread_41 : decode cX5_spread 41 = .ok (.iload_n 1, 1) := by decide +kernel
theorem dX5_spread_42 : decode cX5_spread 42 = .ok (.iload 7, 2) := by decide +kernel
theorem dX5_spread_44 : decode cX5_spread 44 = .ok (.invokevirtual 116, 3) := by decide +kernel
theorem dX5_spread_47 : decode cX5_spread 47 = .ok (.lmul, 1) := by decide +kernel
theorem dX5_spread_48 : decode cX5_spread 48 = .ok (.ladd, 1) := by decide +kernel
theorem dX5_spread_49 : decode cX5_spread 49 = .ok (.lstore_n 3, 1) := by decide +kernel
theorem dX5_spread_50 : decode cX5_spread 50 = .ok (.lload 5, 2) := by decide +kernel
theorem dX5_spread_52 : decode cX5_spread 52 = .ok (.iload 7, 2) := by decide +kernel
theorem dX5_spread_54 : decode cX5_spread 54 = .ok (.iload 7, 2) := by decide +kernel
theorem dX5_spread_56 : decode cX5_spread 56 = .ok (.imul, 1) := by decide +kernel
theorem dX5_spread_57 : decode cX5_spread 57 = .ok (.i2l, 1) := by decide +kernel
theorem dX5_spread_58 : decode cX5_spread 58 = .ok (.aload_n 0, 1) := by decide +kernel
theorem dX5_spread_59 : decode cX5_spread 59 = .ok (.iload_n 1, 1) := by decide +kernel
theorem dX5_spread_60 : decode cX5_spread 60 = .ok (.iload 7, 2) := by decide +kernel
theorem dX5_spread_62 : decode cX5_spread 62 = .ok (.invokevirtual 116, 3) := by decide +kernel
theorem dX5_spread_65 : decode cX5_spread 65 = .ok (.lmul, 1) := by decide +kernel
theorem dX5_spread_66 : decode cX5_spread 66 = .ok (.ladd, 1) := by decide +kernel
theorem dX5_spread_67 : decode cX5_spread 67 = .ok (.lstore 5, 2) := by decide +kernel
theorem dX5_spread_69 : decode cX5_spread 69 = .ok (.iinc 7 1, 3) := by decide +kernel
theorem dX5_spread_72 : decode cX5_spread 72 = .ok (.goto (-45), 3) := by decide +kernel
theorem dX5_spread_75 : decode cX5_spread 75 = .ok (.aload_n 0, 1) := by decide +kernel
theorem dX5_spread_76 : decode cX5_spread 76 = .ok (.iload_n 1, 1) := by decide +kernel
theorem dX5_spread_77 : decode cX5_spread 77 = .ok (.invokevirtual 100, 3) := by decide +kernel
theorem dX5_spread_80 : decode cX5_spread 80 = .ok (.lstore 7, 2) := by decide +kernel
theorem dX5_spread_82 : decode cX5_spread 82 = .ok (.lload 5, 2) := by decide +kernel
theorem dX5_spread_84 : decode cX5_spread 84 = .ok (.lload 7, 2) := by decide +kernel
theorem dX5_spread_86 : decode cX5_spread 86 = .ok (.lmul, 1) := by decide +kernel
theorem dX5_spread_87 : decode cX5_spread 87 = .ok (.lload_n 3, 1) := by decide +kernel
theorem dX5_spread_88 : decode cX5_spread 88 = .ok (.lload_n 3, 1) := by decide +kernel
theorem dX5_spread_89 : decode cX5_spread 89 = .ok (.lmul, 1) := by decide +kernel
theorem dX5_spread_90 : decode cX5_spread 90 = .ok (.lsub, 1) := by decide +kernel
theorem dX5_spread_91 : decode cX5_spread 91 = .ok (.lload 7, 2) := by decide +kernel
theorem dX5_spread_93 : decode cX5_spread 93 = .ok (.lload 7, 2) := by decide +kernel
theorem dX5_spread_95 : decode cX5_spread 95 = .ok (.lmul, 1) := by decide +kernel
theorem dX5_spread_96 : decode cX5_spread 96 = .ok (.iload_n 2, 1) := by decide +kernel
theorem dX5_spread_97 : decode cX5_spread 97 = .ok (.invokestatic 109, 3) := by decide +kernel
theorem dX5_spread_100 : decode cX5_spread 100 = .ok (.lreturn, 1) := by decide +kernel
set_option maxRecDepth 20000 in
theorem ggX5_shunning_X5_sumOf : GoodIn wsX5_shunning wsX5_sumOf := goodIn_r _ [5, 6, 7, 12, 13, 14, 15, 16, 17, 18, 19, 20, 21, 22, 23, 24] (by decide +kernel) (by decide +kernel)
set_option maxRecDepth 20000 in
theorem gX5_shunning_X5_sumOf : GoodIn wsX5_shunning (wsV RX5 113 RX5 yX5_sumOf wsX5_sumOf) := goodIn_app (goodIn_of _ (by decide +kernel)) ggX5_shunning_X5_sumOf
set_option maxRecDepth 20000 in
theorem ggX5_shunning_X5_sum : GoodIn wsX5_shunning wsX5_sum := goodIn_r _ [11, 6, 7, 12, 13, 14, 15, 16, 17, 18, 19, 20, 21, 22, 23, 24] (by decide +kernel) (by decide +kernel)
set_option maxRecDepth 20000 in
theorem gX5_shunning_X5_sum : GoodIn wsX5_shunning (wsV RX5 100 RX5 yX5_sum wsX5_sum) := goodIn_app (goodIn_of _ (by decide +kernel)) ggX5_shunning_X5_sum
theorem dX5_shunning_0 : decode cX5_shunning 0 = .ok (.aload_n 0, 1) := by decide +kernel
theorem dX5_shunning_1 : decode cX5_shunning 1 = .ok (.iload_n 1, 1) := by decide +kernel
theorem dX5_shunning_2 : decode cX5_shunning 2 = .ok (.iconst 1, 1) := by decide +kernel
theorem dX5_shunning_3 : decode cX5_shunning 3 = .ok (.iload_n 2, 1) := by decide +kernel
theorem dX5_shunning_4 : decode cX5_shunning 4 = .ok (.ishl, 1) := by decide +kernel
theorem dX5_shunning_5 : decode cX5_shunning 5 = .ok (.iconst 0, 1) := by decide +kernel
theorem dX5_shunning_6 : decode cX5_shunning 6 = .ok (.invokevirtual 113, 3) := by decide +kernel
theorem dX5_shunning_9 : decode cX5_shunning 9 = .ok (.aload_n 0, 1) := by decide +kernel
theorem dX5_shunning_10 : decode cX5_shunning 10 = .ok (.iload_n 1, 1) := by decide +kernel
theorem dX5_shunning_11 : decode cX5_shunning 11 = .ok (.iconst 1, 1) := by decide +kernel
theorem dX5_shunning_12 : decode cX5_shunning 12 = .ok (.iload_n 3, 1) := by decide +kernel
theorem dX5_shunning_13 : decode cX5_shunning 13 = .ok (.ishl, 1) := by decide +kernel
theorem dX5_shunning_14 : decode cX5_shunning 14 = .ok (.iconst 0, 1) := by decide +kernel
theorem dX5_shunning_15 : decode cX5_shunning 15 = .ok (.invokevirtual 113, 3) := by decide +kernel
theorem dX5_shunning_18 : decode cX5_shunning 18 = .ok (.lmul, 1) := by decide +kernel
theorem dX5_shunning_19 : decode cX5_shunning 19 = .ok (.aload_n 0, 1) := by decide +kernel
theorem dX5_shunning_20 : decode cX5_shunning 20 = .ok (.iload_n 1, 1) := by decide +kernel
theorem dX5_shunning_21 : decode cX5_shunning 21 = .ok (.iconst 1, 1) := by decide +kernel
theorem dX5_shunning_22 : decode cX5_shunning 22 = .ok (.iload_n 2, 1) := by decide +kernel
theorem dX5_shunning_23 : decode cX5_shunning 23 = .ok (.ishl, 1) := by decide +kernel
theorem dX5_shunning_24 : decode cX5_shunning 24 = .ok (.iconst 1, 1) := by decide +kernel
theorem dX5_shunning_25 : decode cX5_shunning 25 = .ok (.iload_n 3, 1) := by decide +kernel
theorem dX5_shunning_26 : decode cX5_shunning 26 = .ok (.ishl, 1) := by decide +kernel
theorem dX5_shunning_27 : decode cX5_shunning 27 = .ok (.ior, 1) := by decide +kernel
theorem dX5_shunning_28 : decode cX5_shunning 28 = .ok (.iconst 0, 1) := by decide +kernel
theorem dX5_shunning_29 : decode cX5_shunning 29 = .ok (.invokevirtual 113, 3) := by decide +kernel
theorem dX5_shunning_32 : decode cX5_shunning 32 = .ok (.aload_n 0, 1) := by decide +kernel
theorem dX5_shunning_33 : decode cX5_shunning 33 = .ok (.iload_n 1, 1) := by decide +kernel
theorem dX5_shunning_34 : decode cX5_shunning 34 = .ok (.invokevirtual 100, 3) := by decide +kernel
theorem dX5_shunning_37 : decode cX5_shunning 37 = .ok (.lmul, 1) := by decide +kernel
theorem dX5_shunning_38 : decode cX5_shunning 38 = .ok (.lsub, 1) := by decide +kernel
theorem dX5_shunning_39 : decode cX5_shunning 39 = .ok (.lreturn, 1) := by decide +kernel
set_option maxRecDepth 20000 in
theorem ggX5_both_X5_isLaw : GoodIn wsX5_both wsX5_isLaw := goodIn_r _ [5, 6, 7, 8, 4, 9, 10, 11, 12, 41, 42, 43, 44, 45, 46, 47, 48, 49, 50, 51, 52, 53] (by decide +kernel) (by decide +kernel)
set_option maxRecDepth 20000 in
theorem gX5_both_X5_isLaw : GoodIn wsX5_both (wsV RX5 94 RX5 yX5_isLaw wsX5_isLaw) := goodIn_app (goodIn_of _ (by decide +kernel)) ggX5_both_X5_isLaw
set_option maxRecDepth 20000 in
theorem ggX5_both_X5_isThing : GoodIn wsX5_both wsX5_isThing := goodIn_r _ [16, 17, 10, 11, 4, 12, 41, 42, 43, 44, 45, 46, 47, 48, 49, 50, 51, 52, 53] (by decide +kernel) (by decide +kernel)
set_option maxRecDepth 20000 in
theorem gX5_both_X5_isThing : GoodIn wsX5_both (wsV RX5 60 RX5 yX5_isThing wsX5_isThing) := goodIn_app (goodIn_of _ (by decide +kernel)) ggX5_both_X5_isThing
set_option maxRecDepth 20000 in
theorem ggX5_both_X5_isWhat : GoodIn wsX5_both wsX5_isWhat := goodIn_r _ [20, 10, 11, 4, 12] (by decide +kernel) (by decide +kernel)
set_option maxRecDepth 20000 in
theorem gX5_both_X5_isWhat : GoodIn wsX5_both (va_wsS RX5 106 yX5_isWhat wsX5_isWhat) := goodIn_app (goodIn_of _ (by decide +kernel)) ggX5_both_X5_isWhat
set_option maxRecDepth 20000 in
theorem ggX5_both_X5_sum : GoodIn wsX5_both wsX5_sum := goodIn_r _ [24, 25, 26, 41, 42, 43, 44, 45, 46, 47, 48, 49, 50, 51, 52, 53] (by decide +kernel) (by decide +kernel)
set_option maxRecDepth 20000 in
theorem gX5_both_X5_sum : GoodIn wsX5_both (wsV RX5 100 RX5 yX5_sum wsX5_sum) := goodIn_app (goodIn_of _ (by decide +kernel)) ggX5_both_X5_sum
set_option maxRecDepth 20000 in
theorem ggX5_both_X5_shunning : GoodIn wsX5_both wsX5_shunning := goodIn_r _ [30, 31, 32, 33, 4, 34, 25, 26, 21, 22, 23, 24, 41, 42, 43, 44, 45, 46, 47, 48, 49, 50, 51, 52, 53] (by decide +kernel) (by decide +kernel)
set_option maxRecDepth 20000 in
theorem gX5_both_X5_shunning : GoodIn wsX5_both (wsV RX5 119 RX5 yX5_shunning wsX5_shunning) := goodIn_app (goodIn_of _ (by decide +kernel)) ggX5_both_X5_shunning
set_option maxRecDepth 20000 in
theorem ggX5_both_X5_fraction : GoodIn wsX5_both wsX5_fraction := goodIn_r _ [37, 38, 39, 4, 40] (by decide +kernel) (by decide +kernel)
set_option maxRecDepth 20000 in
theorem gX5_both_X5_fraction : GoodIn wsX5_both (va_wsS RX5 109 yX5_fraction wsX5_fraction) := goodIn_app (goodIn_of _ (by decide +kernel)) ggX5_both_X5_fraction
theorem dX5_both_0 : decode cX5_both 0 = .ok (.aload_n 0, 1) := by decide +kernel
theorem dX5_both_1 : decode cX5_both 1 = .ok (.iload_n 1, 1) := by decide +kernel
theorem dX5_both_2 : decode cX5_both 2 = .ok (.invokevirtual 94, 3) := by decide +kernel
theorem dX5_both_5 : decode cX5_both 5 = .ok (.ifCond .eq 32, 3) := by decide +kernel
theorem dX5_both_8 : decode cX5_both 8 = .ok (.aload_n 0, 1) := by decide +kernel
theorem dX5_both_9 : decode cX5_both 9 = .ok (.iload_n 2, 1) := by decide +kernel
theorem dX5_both_10 : decode cX5_both 10 = .ok (.invokevirtual 60, 3) := by decide +kernel
theorem dX5_both_13 : decode cX5_both 13 = .ok (.ifCond .eq 24, 3) := by decide +kernel
theorem dX5_both_16 : decode cX5_both 16 = .ok (.aload_n 0, 1) := by decide +kernel
theorem dX5_both_17 : decode cX5_both 17 = .ok (.iload_n 3, 1) := by decide +kernel
theorem dX5_both_18 : decode cX5_both 18 = .ok (.invokevirtual 60, 3) := by decide +kernel
theorem dX5_both_21 : decode cX5_both 21 = .ok (.ifCond .eq 16, 3) := by decide +kernel
theorem dX5_both_24 : decode cX5_both 24 = .ok (.iload_n 2, 1) := by decide +kernel
theorem dX5_both_25 : decode cX5_both 25 = .ok (.iload_n 3, 1) := by decide +kernel
theorem dX5_both_26 : decode cX5_both 26 = .ok (.if_icmp .eq 11, 3) := by decide +kernel
theorem dX5_both_29 : decode cX5_both 29 = .ok (.iload 4, 2) := by decide +kernel
theorem dX5_both_31 : decode cX5_both 31 = .ok (.invokestatic 106, 3) := by decide +kernel
theorem dX5_both_34 : decode cX5_both 34 = .ok (.ifCond .ne 5, 3) := by decide +kernel
theorem dX5_both_37 : decode cX5_both 37 = .ok (.lconst 0, 1) := by decide +kernel
theorem dX5_both_38 : decode cX5_both 38 = .ok (.lreturn, 1) := by decide +kernel
theorem dX5_both_39 : decode cX5_both 39 = .ok (.aload_n 0, 1) := by decide +kernel
theorem dX5_both_40 : decode cX5_both 40 = .ok (.iload_n 1, 1) := by decide +kernel
theorem dX5_both_41 : decode cX5_both 41 = .ok (.invokevirtual 100, 3) := by decide +kernel
theorem dX5_both_44 : decode cX5_both 44 = .ok (.lstore 5, 2) := by decide +kernel
theorem dX5_both_46 : decode cX5_both 46 = .ok (.aload_n 0, 1) := by decide +kernel
theorem dX5_both_47 : decode cX5_both 47 = .ok (.iload_n 1, 1) := by decide +kernel
theorem dX5_both_48 : decode cX5_both 48 = .ok (.iload_n 2, 1) := by decide +kernel
theorem dX5_both_49 : decode cX5_both 49 = .ok (.iload_n 3, 1) := by decide +kernel
theorem dX5_both_50 : decode cX5_both 50 = .ok (.invokevirtual 119, 3) := by decide +kernel
theorem dX5_both_53 : decode cX5_both 53 = .ok (.lload 5, 2) := by decide +kernel
theorem dX5_both_55 : decode cX5_both 55 = .ok (.lload 5, 2) := by decide +kernel
theorem dX5_both_57 : decode cX5_both 57 = .ok (.lmul, 1) := by decide +kernel
theorem dX5_both_58 : decode cX5_both 58 = .ok (.iload 4, 2) := by decide +kernel
theorem dX5_both_60 : decode cX5_both 60 = .ok (.invokestatic 109, 3) := by decide +kernel
theorem dX5_both_63 : decode cX5_both 63 = .ok (.lreturn, 1) := by decide +kernel
set_option maxRecDepth 20000 in
theorem ggX5_shuns_X5_isLaw : GoodIn wsX5_shuns wsX5_isLaw := goodIn_r _ [6, 7, 8, 9, 5, 10, 11, 12, 13, 28, 29, 30, 31, 32, 33, 34, 35, 36, 37, 38, 39, 40] (by decide +kernel) (by decide +kernel)
set_option maxRecDepth 20000 in
theorem gX5_shuns_X5_isLaw : GoodIn wsX5_shuns (wsV RX5 94 RX5 yX5_isLaw wsX5_isLaw) := goodIn_app (goodIn_of _ (by decide +kernel)) ggX5_shuns_X5_isLaw
set_option maxRecDepth 20000 in
theorem ggX5_shuns_X5_shunning : GoodIn wsX5_shuns wsX5_shunning := goodIn_r _ [17, 18, 19, 20, 5, 21, 22, 23, 24, 25, 26, 27, 28, 29, 30, 31, 32, 33, 34, 35, 36, 37, 38, 39, 40] (by decide +kernel) (by decide +kernel)
set_option maxRecDepth 20000 in
theorem gX5_shuns_X5_shunning : GoodIn wsX5_shuns (wsV RX5 119 RX5 yX5_shunning wsX5_shunning) := goodIn_app (goodIn_of _ (by decide +kernel)) ggX5_shuns_X5_shunning
theorem dX5_shuns_0 : decode cX5_shuns 0 = .ok (.aload_n 0, 1) := by decide +kernel
theorem dX5_shuns_1 : decode cX5_shuns 1 = .ok (.iload_n 1, 1) := by decide +kernel
theorem dX5_shuns_2 : decode cX5_shuns 2 = .ok (.invokevirtual 94, 3) := by decide +kernel
theorem dX5_shuns_5 : decode cX5_shuns 5 = .ok (.ifCond .ne 5, 3) := by decide +kernel
theorem dX5_shuns_8 : decode cX5_shuns 8 = .ok (.iconst (-1), 1) := by decide +kernel
theorem dX5_shuns_9 : decode cX5_shuns 9 = .ok (.ireturn, 1) := by decide +kernel
theorem dX5_shuns_10 : decode cX5_shuns 10 = .ok (.iconst 0, 1) := by decide +kernel
theorem dX5_shuns_11 : decode cX5_shuns 11 = .ok (.istore_n 2, 1) := by decide +kernel
theorem dX5_shuns_12 : decode cX5_shuns 12 = .ok (.iload_n 2, 1) := by decide +kernel
theorem dX5_shuns_13 : decode cX5_shuns 13 = .ok (.aload_n 0, 1) := by decide +kernel
theorem dX5_shuns_14 : decode cX5_shuns 14 = .ok (.getfield 45, 3) := by decide +kernel
theorem dX5_shuns_17 : decode cX5_shuns 17 = .ok (.if_icmp .ge 36, 3) := by decide +kernel
theorem dX5_shuns_20 : decode cX5_shuns 20 = .ok (.iconst 0, 1) := by decide +kernel
theorem dX5_shuns_21 : decode cX5_shuns 21 = .ok (.istore_n 3, 1) := by decide +kernel
theorem dX5_shuns_22 : decode cX5_shuns 22 = .ok (.iload_n 3, 1) := by decide +kernel
theorem dX5_shuns_23 : decode cX5_shuns 23 = .ok (.iload_n 2, 1) := by decide +kernel
theorem dX5_shuns_24 : decode cX5_shuns 24 = .ok (.if_icmp .ge 23, 3) := by decide +kernel
theorem dX5_shuns_27 : decode cX5_shuns 27 = .ok (.aload_n 0, 1) := by decide +kernel
theorem dX5_shuns_28 : decode cX5_shuns 28 = .ok (.iload_n 1, 1) := by decide +kernel
theorem dX5_shuns_29 : decode cX5_shuns 29 = .ok (.iload_n 2, 1) := by decide +kernel
theorem dX5_shuns_30 : decode cX5_shuns 30 = .ok (.iload_n 3, 1) := by decide +kernel
theorem dX5_shuns_31 : decode cX5_shuns 31 = .ok (.invokevirtual 119, 3) := by decide +kernel
theorem dX5_shuns_34 : decode cX5_shuns 34 = .ok (.lconst 0, 1) := by decide +kernel
theorem dX5_shuns_35 : decode cX5_shuns 35 = .ok (.lcmp, 1) := by decide +kernel
theorem dX5_shuns_36 : decode cX5_shuns 36 = .ok (.ifCond .ge 5, 3) := by decide +kernel
theorem dX5_shuns_39 : decode cX5_shuns 39 = .ok (.iconst 0, 1) := by decide +kernel
theorem dX5_shuns_40 : decode cX5_shuns 40 = .ok (.ireturn, 1) := by decide +kernel
theorem dX5_shuns_41 : decode cX5_shuns 41 = .ok (.iinc 3 1, 3) := by decide +kernel
theorem dX5_shuns_44 : decode cX5_shuns 44 = .ok (.goto (-22), 3) := by decide +kernel
theorem dX5_shuns_47 : decode cX5_shuns 47 = .ok (.iinc 2 1, 3) := by decide +kernel
theorem dX5_shuns_50 : decode cX5_shuns 50 = .ok (.goto (-38), 3) := by decide +kernel
theorem dX5_shuns_53 : decode cX5_shuns 53 = .ok (.iconst 1, 1) := by decide +kernel
theorem dX5_shuns_54 : decode cX5_shuns 54 = .ok (.ireturn, 1) := by decide +kernel
set_option maxRecDepth 20000 in
theorem ggX5_rises_X5_isLaw : GoodIn wsX5_rises wsX5_isLaw := goodIn_r _ [6, 7, 8, 9, 5, 10, 11, 12, 13, 23, 24, 25, 26, 27, 28, 29, 30, 31, 32, 33, 34, 35] (by decide +kernel) (by decide +kernel)
set_option maxRecDepth 20000 in
theorem gX5_rises_X5_isLaw : GoodIn wsX5_rises (wsV RX5 94 RX5 yX5_isLaw wsX5_isLaw) := goodIn_app (goodIn_of _ (by decide +kernel)) ggX5_rises_X5_isLaw
set_option maxRecDepth 20000 in
theorem ggX5_rises_X5_ofSize : GoodIn wsX5_rises wsX5_ofSize := goodIn_r _ [17, 18, 19, 20, 21, 5, 22, 23, 24, 25, 26, 27, 28, 29, 30, 31, 32, 33, 34, 35] (by decide +kernel) (by decide +kernel)
set_option maxRecDepth 20000 in
theorem gX5_rises_X5_ofSize : GoodIn wsX5_rises (wsV RX5 116 RX5 yX5_ofSize wsX5_ofSize) := goodIn_app (goodIn_of _ (by decide +kernel)) ggX5_rises_X5_ofSize
theorem dX5_rises_0 : decode cX5_rises 0 = .ok (.aload_n 0, 1) := by decide +kernel
theorem dX5_rises_1 : decode cX5_rises 1 = .ok (.iload_n 1, 1) := by decide +kernel
theorem dX5_rises_2 : decode cX5_rises 2 = .ok (.invokevirtual 94, 3) := by decide +kernel
theorem dX5_rises_5 : decode cX5_rises 5 = .ok (.ifCond .ne 5, 3) := by decide +kernel
theorem dX5_rises_8 : decode cX5_rises 8 = .ok (.iconst (-1), 1) := by decide +kernel
theorem dX5_rises_9 : decode cX5_rises 9 = .ok (.ireturn, 1) := by decide +kernel
theorem dX5_rises_10 : decode cX5_rises 10 = .ok (.iconst 0, 1) := by decide +kernel
theorem dX5_rises_11 : decode cX5_rises 11 = .ok (.istore_n 2, 1) := by decide +kernel
theorem dX5_rises_12 : decode cX5_rises 12 = .ok (.iload_n 2, 1) := by decide +kernel
theorem dX5_rises_13 : decode cX5_rises 13 = .ok (.aload_n 0, 1) := by decide +kernel
theorem dX5_rises_14 : decode cX5_rises 14 = .ok (.getfield 45, 3) := by decide +kernel
theorem dX5_rises_17 : decode cX5_rises 17 = .ok (.if_icmp .ge 27, 3) := by decide +kernel
theorem dX5_rises_20 : decode cX5_rises 20 = .ok (.aload_n 0, 1) := by decide +kernel
theorem dX5_rises_21 : decode cX5_rises 21 = .ok (.iload_n 1, 1) := by decide +kernel
theorem dX5_rises_22 : decode cX5_rises 22 = .ok (.iload_n 2, 1) := by decide +kernel
theorem dX5_rises_23 : decode cX5_rises 23 = .ok (.invokevirtual 116, 3) := by decide +kernel
theorem dX5_rises_26 : decode cX5_rises 26 = .ok (.aload_n 0, 1) := by decide +kernel
theorem dX5_rises_27 : decode cX5_rises 27 = .ok (.iload_n 1, 1) := by decide +kernel
theorem dX5_rises_28 : decode cX5_rises 28 = .ok (.iload_n 2, 1) := by decide +kernel
theorem dX5_rises_29 : decode cX5_rises 29 = .ok (.iconst 1, 1) := by decide +kernel
theorem dX5_rises_30 : decode cX5_rises 30 = .ok (.iadd, 1) := by decide +kernel
theorem dX5_rises_31 : decode cX5_rises 31 = .ok (.invokevirtual 116, 3) := by decide +kernel
theorem dX5_rises_34 : decode cX5_rises 34 = .ok (.lcmp, 1) := by decide +kernel
theorem dX5_rises_35 : decode cX5_rises 35 = .ok (.ifCond .gt 9, 3) := by decide +kernel
theorem dX5_rises_38 : decode cX5_rises 38 = .ok (.iinc 2 1, 3) := by decide +kernel
theorem dX5_rises_41 : decode cX5_rises 41 = .ok (.goto (-29), 3) := by decide +kernel
theorem dX5_rises_44 : decode cX5_rises 44 = .ok (.iload_n 2, 1) := by decide +kernel
theorem dX5_rises_45 : decode cX5_rises 45 = .ok (.aload_n 0, 1) := by decide +kernel
theorem dX5_rises_46 : decode cX5_rises 46 = .ok (.getfield 45, 3) := by decide +kernel
theorem dX5_rises_49 : decode cX5_rises 49 = .ok (.if_icmp .ge 27, 3) := by decide +kernel
theorem dX5_rises_52 : decode cX5_rises 52 = .ok (.aload_n 0, 1) := by decide +kernel
theorem dX5_rises_53 : decode cX5_rises 53 = .ok (.iload_n 1, 1) := by decide +kernel
theorem dX5_rises_54 : decode cX5_rises 54 = .ok (.iload_n 2, 1) := by decide +kernel
theorem dX5_rises_55 : decode cX5_rises 55 = .ok (.invokevirtual 116, 3) := by decide +kernel
theorem dX5_rises_58 : decode cX5_rises 58 = .ok (.aload_n 0, 1) := by decide +kernel
theorem dX5_rises_59 : decode cX5_rises 59 = .ok (.iload_n 1, 1) := by decide +kernel
theorem dX5_rises_60 : decode cX5_rises 60 = .ok (.iload_n 2, 1) := by decide +kernel
theorem dX5_rises_61 : decode cX5_rises 61 = .ok (.iconst 1, 1) := by decide +kernel
theorem dX5_rises_62 : decode cX5_rises 62 = .ok (.iadd, 1) := by decide +kernel
theorem dX5_rises_63 : decode cX5_rises 63 = .ok (.invokevirtual 116, 3) := by decide +kernel
theorem dX5_rises_66 : decode cX5_rises 66 = .ok (.lcmp, 1) := by decide +kernel
theorem dX5_rises_67 : decode cX5_rises 67 = .ok (.ifCond .lt 9, 3) := by decide +kernel
theorem dX5_rises_70 : decode cX5_rises 70 = .ok (.iinc 2 1, 3) := by decide +kernel
theorem dX5_rises_73 : decode cX5_rises 73 = .ok (.goto (-29), 3) := by decide +kernel
theorem dX5_rises_76 : decode cX5_rises 76 = .ok (.iload_n 2, 1) := by decide +kernel
theorem dX5_rises_77 : decode cX5_rises 77 = .ok (.aload_n 0, 1) := by decide +kernel
theorem dX5_rises_78 : decode cX5_rises 78 = .ok (.getfield 45, 3) := by decide +kernel
theorem dX5_rises_81 : decode cX5_rises 81 = .ok (.if_icmp .ne 7, 3) := by decide +kernel
theorem dX5_rises_84 : decode cX5_rises 84 = .ok (.iconst 1, 1) := by decide +kernel
theorem dX5_rises_85 : decode cX5_rises 85 = .ok (.goto 4, 3) := by decide +kernel
theorem dX5_rises_88 : decode cX5_rises 88 = .ok (.iconst 0, 1) := by decide +kernel
theorem dX5_rises_89 : decode cX5_rises 89 = .ok (.ireturn, 1) := by decide +kernel
set_option maxRecDepth 20000 in
theorem ggX5_greatest_X5_isLaw : GoodIn wsX5_greatest wsX5_isLaw := goodIn_r _ [7, 8, 9, 10, 6, 11, 12, 13, 14, 15, 16, 17, 18, 19, 20, 21, 22, 23, 24, 25, 26, 27] (by decide +kernel) (by decide +kernel)
set_option maxRecDepth 20000 in
theorem gX5_greatest_X5_isLaw : GoodIn wsX5_greatest (wsV RX5 94 RX5 yX5_isLaw wsX5_isLaw) := goodIn_app (goodIn_of _ (by decide +kernel)) ggX5_greatest_X5_isLaw
theorem dX5_greatest_0 : decode cX5_greatest 0 = .ok (.aload_n 0, 1) := by decide +kernel
theorem dX5_greatest_1 : decode cX5_greatest 1 = .ok (.iload_n 1, 1) := by decide +kernel
theorem dX5_greatest_2 : decode cX5_greatest 2 = .ok (.invokevirtual 94, 3) := by decide +kernel
theorem dX5_greatest_5 : decode cX5_greatest 5 = .ok (.ifCond .ne 5, 3) := by decide +kernel
theorem dX5_greatest_8 : decode cX5_greatest 8 = .ok (.iconst (-1), 1) := by decide +kernel
theorem dX5_greatest_9 : decode cX5_greatest 9 = .ok (.ireturn, 1) := by decide +kernel
theorem dX5_greatest_10 : decode cX5_greatest 10 = .ok (.iconst 0, 1) := by decide +kernel
theorem dX5_greatest_11 : decode cX5_greatest 11 = .ok (.istore_n 2, 1) := by decide +kernel
theorem dX5_greatest_12 : decode cX5_greatest 12 = .ok (.iconst 1, 1) := by decide +kernel
theorem dX5_greatest_13 : decode cX5_greatest 13 = .ok (.istore_n 3, 1) := by decide +kernel
theorem dX5_greatest_14 : decode cX5_greatest 14 = .ok (.iload_n 3, 1) := by decide +kernel
theorem dX5_greatest_15 : decode cX5_greatest 15 = .ok (.aload_n 0, 1) := by decide +kernel
theorem dX5_greatest_16 : decode cX5_greatest 16 = .ok (.getfield 49, 3) := by decide +kernel
theorem dX5_greatest_19 : decode cX5_greatest 19 = .ok (.if_icmp .ge 37, 3) := by decide +kernel
theorem dX5_greatest_22 : decode cX5_greatest 22 = .ok (.aload_n 0, 1) := by decide +kernel
theorem dX5_greatest_23 : decode cX5_greatest 23 = .ok (.getfield 20, 3) := by decide +kernel
theorem dX5_greatest_26 : decode cX5_greatest 26 = .ok (.bipush 64, 2) := by decide +kernel
theorem dX5_greatest_28 : decode cX5_greatest 28 = .ok (.iload_n 1, 1) := by decide +kernel
theorem dX5_greatest_29 : decode cX5_greatest 29 = .ok (.imul, 1) := by decide +kernel
theorem dX5_greatest_30 : decode cX5_greatest 30 = .ok (.iload_n 3, 1) := by decide +kernel
theorem dX5_greatest_31 : decode cX5_greatest 31 = .ok (.iadd, 1) := by decide +kernel
theorem dX5_greatest_32 : decode cX5_greatest 32 = .ok (.laload, 1) := by decide +kernel
theorem dX5_greatest_33 : decode cX5_greatest 33 = .ok (.aload_n 0, 1) := by decide +kernel
theorem dX5_greatest_34 : decode cX5_greatest 34 = .ok (.getfield 20, 3) := by decide +kernel
theorem dX5_greatest_37 : decode cX5_greatest 37 = .ok (.bipush 64, 2) := by decide +kernel
theorem dX5_greatest_39 : decode cX5_greatest 39 = .ok (.iload_n 1, 1) := by decide +kernel
theorem dX5_greatest_40 : decode cX5_greatest 40 = .ok (.imul, 1) := by decide +kernel
theorem dX5_greatest_41 : decode cX5_greatest 41 = .ok (.iload_n 2, 1) := by decide +kernel
theorem dX5_greatest_42 : decode cX5_greatest 42 = .ok (.iadd, 1) := by decide +kernel
theorem dX5_greatest_43 : decode cX5_greatest 43 = .ok (.laload, 1) := by decide +kernel
theorem dX5_greatest_44 : decode cX5_greatest 44 = .ok (.lcmp, 1) := by decide +kernel
theorem dX5_greatest_45 : decode cX5_greatest 45 = .ok (.ifCond .le 5, 3) := by decide +kernel
theorem dX5_greatest_48 : decode cX5_greatest 48 = .ok (.iload_n 3, 1) := by decide +kernel
theorem dX5_greatest_49 : decode cX5_greatest 49 = .ok (.istore_n 2, 1) := by decide +kernel
theorem dX5_greatest_50 : decode cX5_greatest 50 = .ok (.iinc 3 1, 3) := by decide +kernel
theorem dX5_greatest_53 : decode cX5_greatest 53 = .ok (.goto (-39), 3) := by decide +kernel
theorem dX5_greatest_56 : decode cX5_greatest 56 = .ok (.iload_n 2, 1) := by decide +kernel
theorem dX5_greatest_57 : decode cX5_greatest 57 = .ok (.ireturn, 1) := by decide +kernel
set_option maxRecDepth 20000 in
theorem ggX5_greedy_X5_isLaw : GoodIn wsX5_greedy wsX5_isLaw := goodIn_r _ [7, 8, 9, 10, 6, 11, 12, 13, 14, 15, 16, 17, 18, 19, 20, 21, 22, 23, 24, 25, 26, 27] (by decide +kernel) (by decide +kernel)
set_option maxRecDepth 20000 in
theorem gX5_greedy_X5_isLaw : GoodIn wsX5_greedy (wsV RX5 94 RX5 yX5_isLaw wsX5_isLaw) := goodIn_app (goodIn_of _ (by decide +kernel)) ggX5_greedy_X5_isLaw
set_option maxRecDepth 20000 in
theorem ggX5_greedy_X5_in : GoodIn wsX5_greedy wsX5_in := goodIn_r _ [14] (by decide +kernel) (by decide +kernel)
set_option maxRecDepth 20000 in
theorem gX5_greedy_X5_in : GoodIn wsX5_greedy (va_wsS RX5 52 yX5_in wsX5_in) := goodIn_app (goodIn_of _ (by decide +kernel)) ggX5_greedy_X5_in
theorem dX5_greedy_0 : decode cX5_greedy 0 = .ok (.aload_n 0, 1) := by decide +kernel
theorem dX5_greedy_1 : decode cX5_greedy 1 = .ok (.iload_n 1, 1) := by decide +kernel
theorem dX5_greedy_2 : decode cX5_greedy 2 = .ok (.invokevirtual 94, 3) := by decide +kernel
theorem dX5_greedy_5 : decode cX5_greedy 5 = .ok (.ifCond .eq 15, 3) := by decide +kernel
theorem dX5_greedy_8 : decode cX5_greedy 8 = .ok (.iload_n 2, 1) := by decide +kernel
theorem dX5_greedy_9 : decode cX5_greedy 9 = .ok (.iconst 0, 1) := by decide +kernel
theorem dX5_greedy_10 : decode cX5_greedy 10 = .ok (.aload_n 0, 1) := by decide +kernel
theorem dX5_greedy_11 : decode cX5_greedy 11 = .ok (.getfield 45, 3) := by decide +kernel
theorem dX5_greedy_14 : decode cX5_greedy 14 = .ok (.invokestatic 52, 3) := by decide +kernel
theorem dX5_greedy_17 : decode cX5_greedy 17 = .ok (.ifCond .ne 5, 3) := by decide +kernel
theorem dX5_greedy_20 : decode cX5_greedy 20 = .ok (.iconst (-1), 1) := by decide +kernel
theorem dX5_greedy_21 : decode cX5_greedy 21 = .ok (.ireturn, 1) := by decide +kernel
theorem dX5_greedy_22 : decode cX5_greedy 22 = .ok (.iconst 0, 1) := by decide +kernel
theorem dX5_greedy_23 : decode cX5_greedy 23 = .ok (.istore_n 3, 1) := by decide +kernel
theorem dX5_greedy_24 : decode cX5_greedy 24 = .ok (.iconst 0, 1) := by decide +kernel
theorem dX5_greedy_25 : decode cX5_greedy 25 = .ok (.istore 4, 2) := by decide +kernel
theorem dX5_greedy_27 : decode cX5_greedy 27 = .ok (.iload 4, 2) := by decide +kernel
theorem dX5_greedy_29 : decode cX5_greedy 29 = .ok (.iload_n 2, 1) := by decide +kernel
theorem dX5_greedy_30 : decode cX5_greedy 30 = .ok (.if_icmp .ge 95, 3) := by decide +kernel
theorem dX5_greedy_33 : decode cX5_greedy 33 = .ok (.iconst (-1), 1) := by decide +kernel
theorem dX5_greedy_34 : decode cX5_greedy 34 = .ok (.istore 5, 2) := by decide +kernel
theorem dX5_greedy_36 : decode cX5_greedy 36 = .ok (.iconst 0, 1) := by decide +kernel
theorem dX5_greedy_37 : decode cX5_greedy 37 = .ok (.istore 6, 2) := by decide +kernel
theorem dX5_greedy_39 : decode cX5_greedy 39 = .ok (.iload 6, 2) := by decide +kernel
theorem dX5_greedy_41 : decode cX5_greedy 41 = .ok (.aload_n 0, 1) := by decide +kernel
theorem dX5_greedy_42 : decode cX5_greedy 42 = .ok (.getfield 45, 3) := by decide +kernel
theorem dX5_greedy_45 : decode cX5_greedy 45 = .ok (.if_icmp .ge 67, 3) := by decide +kernel
theorem dX5_greedy_48 : decode cX5_greedy 48 = .ok (.iload_n 3, 1) := by decide +kernel
theorem dX5_greedy_49 : decode cX5_greedy 49 = .ok (.iload 6, 2) := by decide +kernel
theorem dX5_greedy_51 : decode cX5_greedy 51 = .ok (.ishr, 1) := by decide +kernel
theorem dX5_greedy_52 : decode cX5_greedy 52 = .ok (.iconst 1, 1) := by decide +kernel
theorem dX5_greedy_53 : decode cX5_greedy 53 = .ok (.iand, 1) := by decide +kernel
theorem dX5_greedy_54 : decode cX5_greedy 54 = .ok (.iconst 1, 1) := by decide +kernel
theorem dX5_greedy_55 : decode cX5_greedy 55 = .ok (.if_icmp .ne 6, 3) := by decide +kernel
theorem dX5_greedy_58 : decode cX5_greedy 58 = .ok (.goto 48, 3) := by decide +kernel
theorem dX5_greedy_61 : decode cX5_greedy 61 = .ok (.iload 5, 2) := by decide +kernel
theorem dX5_greedy_63 : decode cX5_greedy 63 = .ok (.ifCond .lt 39, 3) := by decide +kernel
theorem dX5_greedy_66 : decode cX5_greedy 66 = .ok (.aload_n 0, 1) := by decide +kernel
theorem dX5_greedy_67 : decode cX5_greedy 67 = .ok (.getfield 20, 3) := by decide +kernel
theorem dX5_greedy_70 : decode cX5_greedy 70 = .ok (.bipush 64, 2) := by decide +kernel
theorem dX5_greedy_72 : decode cX5_greedy 72 = .ok (.iload_n 1, 1) := by decide +kernel
theorem dX5_greedy_73 : decode cX5_greedy 73 = .ok (.imul, 1) := by decide +kernel
theorem dX5_greedy_74 : decode cX5_greedy 74 = .ok (.iload_n 3, 1) := by decide +kernel
theorem dX5_greedy_75 : decode cX5_greedy 75 = .ok (.iconst 1, 1) := by decide +kernel
theorem dX5_greedy_76 : decode cX5_greedy 76 = .ok (.iload 6, 2) := by decide +kernel
theorem dX5_greedy_78 : decode cX5_greedy 78 = .ok (.ishl, 1) := by decide +kernel
theorem dX5_greedy_79 : decode cX5_greedy 79 = .ok (.ior, 1) := by decide +kernel
theorem dX5_greedy_80 : decode cX5_greedy 80 = .ok (.iadd, 1) := by decide +kernel
theorem dX5_greedy_81 : decode cX5_greedy 81 = .ok (.laload, 1) := by decide +kernel
theorem dX5_greedy_82 : decode cX5_greedy 82 = .ok (.aload_n 0, 1) := by decide +kernel
theorem dX5_greedy_83 : decode cX5_greedy 83 = .ok (.getfield 20, 3) := by decide +kernel
theorem dX5_greedy_86 : decode cX5_greedy 86 = .ok (.bipush 64, 2) := by decide +kernel
theorem dX5_greedy_88 : decode cX5_greedy 88 = .ok (.iload_n 1, 1) := by decide +kernel
theorem dX5_greedy_89 : decode cX5_greedy 89 = .ok (.imul, 1) := by decide +kernel
theorem dX5_greedy_90 : decode cX5_greedy 90 = .ok (.iload_n 3, 1) := by decide +kernel
theorem dX5_greedy_91 : decode cX5_greedy 91 = .ok (.iconst 1, 1) := by decide +kernel
theorem dX5_greedy_92 : decode cX5_greedy 92 = .ok (.iload 5, 2) := by decide +kernel
theorem dX5_greedy_94 : decode cX5_greedy 94 = .ok (.ishl, 1) := by decide +kernel
theorem dX5_greedy_95 : decode cX5_greedy 95 = .ok (.ior, 1) := by decide +kernel
theorem dX5_greedy_96 : decode cX5_greedy 96 = .ok (.iadd, 1) := by decide +kernel
theorem dX5_greedy_97 : decode cX5_greedy 97 = .ok (.laload, 1) := by decide +kernel
theorem dX5_greedy_98 : decode cX5_greedy 98 = .ok (.lcmp, 1) := by decide +kernel
theorem dX5_greedy_99 : decode cX5_greedy 99 = .ok (.ifCond .le 7, 3) := by decide +kernel
theorem dX5_greedy_102 : decode cX5_greedy 102 = .ok (.iload 6, 2) := by decide +kernel
theorem dX5_greedy_104 : decode cX5_greedy 104 = .ok (.istore 5, 2) := by decide +kernel
theorem dX5_greedy_106 : decode cX5_greedy 106 = .ok (.iinc 6 1, 3) := by decide +kernel
theorem dX5_greedy_109 : decode cX5_greedy 109 = .ok (.goto (-70), 3) := by decide +kernel
theorem dX5_greedy_112 : decode cX5_greedy 112 = .ok (.iload_n 3, 1) := by decide +kernel
theorem dX5_greedy_113 : decode cX5_greedy 113 = .ok (.iconst 1, 1) := by decide +kernel
theorem dX5_greedy_114 : decode cX5_greedy 114 = .ok (.iload 5, 2) := by decide +kernel
theorem dX5_greedy_116 : decode cX5_greedy 116 = .ok (.ishl, 1) := by decide +kernel
theorem dX5_greedy_117 : decode cX5_greedy 117 = .ok (.ior, 1) := by decide +kernel
theorem dX5_greedy_118 : decode cX5_greedy 118 = .ok (.istore_n 3, 1) := by decide +kernel
theorem dX5_greedy_119 : decode cX5_greedy 119 = .ok (.iinc 4 1, 3) := by decide +kernel
theorem dX5_greedy_122 : decode cX5_greedy 122 = .ok (.goto (-95), 3) := by decide +kernel
theorem dX5_greedy_125 : decode cX5_greedy 125 = .ok (.iload_n 3, 1) := by decide +kernel
theorem dX5_greedy_126 : decode cX5_greedy 126 = .ok (.ireturn, 1) := by decide +kernel
set_option maxRecDepth 20000 in
theorem ggX5_same_X5_isLaw : GoodIn wsX5_same wsX5_isLaw := goodIn_r _ [7, 8, 9, 10, 6, 11, 12, 13, 14, 15, 16, 17, 18, 19, 20, 21, 22, 23, 24, 25, 26, 27] (by decide +kernel) (by decide +kernel)
set_option maxRecDepth 20000 in
theorem gX5_same_X5_isLaw : GoodIn wsX5_same (wsV RX5 94 RX5 yX5_isLaw wsX5_isLaw) := goodIn_app (goodIn_of _ (by decide +kernel)) ggX5_same_X5_isLaw
theorem dX5_same_0 : decode cX5_same 0 = .ok (.aload_n 0, 1) := by decide +kernel
theorem dX5_same_1 : decode cX5_same 1 = .ok (.iload_n 1, 1) := by decide +kernel
theorem dX5_same_2 : decode cX5_same 2 = .ok (.invokevirtual 94, 3) := by decide +kernel
theorem dX5_same_5 : decode cX5_same 5 = .ok (.ifCond .eq 11, 3) := by decide +kernel
theorem dX5_same_8 : decode cX5_same 8 = .ok (.aload_n 0, 1) := by decide +kernel
theorem dX5_same_9 : decode cX5_same 9 = .ok (.iload_n 2, 1) := by decide +kernel
theorem dX5_same_10 : decode cX5_same 10 = .ok (.invokevirtual 94, 3) := by decide +kernel
theorem dX5_same_13 : decode cX5_same 13 = .ok (.ifCond .ne 5, 3) := by decide +kernel
theorem dX5_same_16 : decode cX5_same 16 = .ok (.iconst (-1), 1) := by decide +kernel
theorem dX5_same_17 : decode cX5_same 17 = .ok (.ireturn, 1) := by decide +kernel
theorem dX5_same_18 : decode cX5_same 18 = .ok (.iconst 0, 1) := by decide +kernel
theorem dX5_same_19 : decode cX5_same 19 = .ok (.istore_n 3, 1) := by decide +kernel
theorem dX5_same_20 : decode cX5_same 20 = .ok (.iload_n 3, 1) := by decide +kernel
theorem dX5_same_21 : decode cX5_same 21 = .ok (.aload_n 0, 1) := by decide +kernel
theorem dX5_same_22 : decode cX5_same 22 = .ok (.getfield 49, 3) := by decide +kernel
theorem dX5_same_25 : decode cX5_same 25 = .ok (.if_icmp .ge 37, 3) := by decide +kernel
theorem dX5_same_28 : decode cX5_same 28 = .ok (.aload_n 0, 1) := by decide +kernel
theorem dX5_same_29 : decode cX5_same 29 = .ok (.getfield 20, 3) := by decide +kernel
theorem dX5_same_32 : decode cX5_same 32 = .ok (.bipush 64, 2) := by decide +kernel
theorem dX5_same_34 : decode cX5_same 34 = .ok (.iload_n 1, 1) := by decide +kernel
theorem dX5_same_35 : decode cX5_same 35 = .ok (.imul, 1) := by decide +kernel
theorem dX5_same_36 : decode cX5_same 36 = .ok (.iload_n 3, 1) := by decide +kernel
theorem dX5_same_37 : decode cX5_same 37 = .ok (.iadd, 1) := by decide +kernel
theorem dX5_same_38 : decode cX5_same 38 = .ok (.laload, 1) := by decide +kernel
theorem dX5_same_39 : decode cX5_same 39 = .ok (.aload_n 0, 1) := by decide +kernel
theorem dX5_same_40 : decode cX5_same 40 = .ok (.getfield 20, 3) := by decide +kernel
theorem dX5_same_43 : decode cX5_same 43 = .ok (.bipush 64, 2) := by decide +kernel
theorem dX5_same_45 : decode cX5_same 45 = .ok (.iload_n 2, 1) := by decide +kernel
theorem dX5_same_46 : decode cX5_same 46 = .ok (.imul, 1) := by decide +kernel
theorem dX5_same_47 : decode cX5_same 47 = .ok (.iload_n 3, 1) := by decide +kernel
theorem dX5_same_48 : decode cX5_same 48 = .ok (.iadd, 1) := by decide +kernel
theorem dX5_same_49 : decode cX5_same 49 = .ok (.laload, 1) := by decide +kernel
theorem dX5_same_50 : decode cX5_same 50 = .ok (.lcmp, 1) := by decide +kernel
theorem dX5_same_51 : decode cX5_same 51 = .ok (.ifCond .eq 5, 3) := by decide +kernel
theorem dX5_same_54 : decode cX5_same 54 = .ok (.iconst 0, 1) := by decide +kernel
theorem dX5_same_55 : decode cX5_same 55 = .ok (.ireturn, 1) := by decide +kernel
theorem dX5_same_56 : decode cX5_same 56 = .ok (.iinc 3 1, 3) := by decide +kernel
theorem dX5_same_59 : decode cX5_same 59 = .ok (.goto (-39), 3) := by decide +kernel
theorem dX5_same_62 : decode cX5_same 62 = .ok (.iconst 1, 1) := by decide +kernel
theorem dX5_same_63 : decode cX5_same 63 = .ok (.ireturn, 1) := by decide +kernel
set_option maxRecDepth 20000 in
theorem ggX5_draw_X5_isLaw : GoodIn wsX5_draw wsX5_isLaw := goodIn_r _ [8, 9, 10, 11, 7, 12, 13, 14, 15, 22, 23, 24, 25, 26, 27, 28, 29, 30, 31, 32, 33, 34] (by decide +kernel) (by decide +kernel)
set_option maxRecDepth 20000 in
theorem gX5_draw_X5_isLaw : GoodIn wsX5_draw (wsV RX5 94 RX5 yX5_isLaw wsX5_isLaw) := goodIn_app (goodIn_of _ (by decide +kernel)) ggX5_draw_X5_isLaw
set_option maxRecDepth 20000 in
theorem ggX5_draw_X5_sumOf : GoodIn wsX5_draw wsX5_sumOf := goodIn_r _ [19, 20, 21, 22, 23, 24, 25, 26, 27, 28, 29, 30, 31, 32, 33, 34] (by decide +kernel) (by decide +kernel)
set_option maxRecDepth 20000 in
theorem gX5_draw_X5_sumOf : GoodIn wsX5_draw (wsV RX5 113 RX5 yX5_sumOf wsX5_sumOf) := goodIn_app (goodIn_of _ (by decide +kernel)) ggX5_draw_X5_sumOf
theorem dX5_draw_0 : decode cX5_draw 0 = .ok (.aload_n 0, 1) := by decide +kernel
theorem dX5_draw_1 : decode cX5_draw 1 = .ok (.iload_n 1, 1) := by decide +kernel
theorem dX5_draw_2 : decode cX5_draw 2 = .ok (.invokevirtual 94, 3) := by decide +kernel
theorem dX5_draw_5 : decode cX5_draw 5 = .ok (.ifCond .ne 5, 3) := by decide +kernel
theorem dX5_draw_8 : decode cX5_draw 8 = .ok (.iconst (-1), 1) := by decide +kernel
theorem dX5_draw_9 : decode cX5_draw 9 = .ok (.ireturn, 1) := by decide +kernel
theorem dX5_draw_10 : decode cX5_draw 10 = .ok (.iconst 0, 1) := by decide +kernel
theorem dX5_draw_11 : decode cX5_draw 11 = .ok (.istore 4, 2) := by decide +kernel
theorem dX5_draw_13 : decode cX5_draw 13 = .ok (.iconst 0, 1) := by decide +kernel
theorem dX5_draw_14 : decode cX5_draw 14 = .ok (.istore 5, 2) := by decide +kernel
theorem dX5_draw_16 : decode cX5_draw 16 = .ok (.lload_n 2, 1) := by decide +kernel
theorem dX5_draw_17 : decode cX5_draw 17 = .ok (.lstore 6, 2) := by decide +kernel
theorem dX5_draw_19 : decode cX5_draw 19 = .ok (.iconst 0, 1) := by decide +kernel
theorem dX5_draw_20 : decode cX5_draw 20 = .ok (.istore 8, 2) := by decide +kernel
theorem dX5_draw_22 : decode cX5_draw 22 = .ok (.iload 8, 2) := by decide +kernel
theorem dX5_draw_24 : decode cX5_draw 24 = .ok (.aload_n 0, 1) := by decide +kernel
theorem dX5_draw_25 : decode cX5_draw 25 = .ok (.getfield 45, 3) := by decide +kernel
theorem dX5_draw_28 : decode cX5_draw 28 = .ok (.if_icmp .ge 83, 3) := by decide +kernel
theorem dX5_draw_31 : decode cX5_draw 31 = .ok (.aload_n 0, 1) := by decide +kernel
theorem dX5_draw_32 : decode cX5_draw 32 = .ok (.iload_n 1, 1) := by decide +kernel
theorem dX5_draw_33 : decode cX5_draw 33 = .ok (.iload 4, 2) := by decide +kernel
theorem dX5_draw_35 : decode cX5_draw 35 = .ok (.iload 5, 2) := by decide +kernel
theorem dX5_draw_37 : decode cX5_draw 37 = .ok (.invokevirtual 113, 3) := by decide +kernel
theorem dX5_draw_40 : decode cX5_draw 40 = .ok (.lstore 9, 2) := by decide +kernel
theorem dX5_draw_42 : decode cX5_draw 42 = .ok (.aload_n 0, 1) := by decide +kernel
theorem dX5_draw_43 : decode cX5_draw 43 = .ok (.iload_n 1, 1) := by decide +kernel
theorem dX5_draw_44 : decode cX5_draw 44 = .ok (.iload 4, 2) := by decide +kernel
theorem dX5_draw_46 : decode cX5_draw 46 = .ok (.iconst 1, 1) := by decide +kernel
theorem dX5_draw_47 : decode cX5_draw 47 = .ok (.iload 8, 2) := by decide +kernel
theorem dX5_draw_49 : decode cX5_draw 49 = .ok (.ishl, 1) := by decide +kernel
theorem dX5_draw_50 : decode cX5_draw 50 = .ok (.ior, 1) := by decide +kernel
theorem dX5_draw_51 : decode cX5_draw 51 = .ok (.iload 5, 2) := by decide +kernel
theorem dX5_draw_53 : decode cX5_draw 53 = .ok (.invokevirtual 113, 3) := by decide +kernel
theorem dX5_draw_56 : decode cX5_draw 56 = .ok (.lstore 11, 2) := by decide +kernel
theorem dX5_draw_58 : decode cX5_draw 58 = .ok (.lload 6, 2) := by decide +kernel
theorem dX5_draw_60 : decode cX5_draw 60 = .ok (.ldc2_w 122, 3) := by decide +kernel
theorem dX5_draw_63 : decode cX5_draw 63 = .ok (.lmul, 1) := by decide +kernel
theorem dX5_draw_64 : decode cX5_draw 64 = .ok (.ldc2_w 124, 3) := by decide +kernel
theorem dX5_draw_67 : decode cX5_draw 67 = .ok (.ladd, 1) := by decide +kernel
theorem dX5_draw_68 : decode cX5_draw 68 = .ok (.lstore 6, 2) := by decide +kernel
theorem dX5_draw_70 : decode cX5_draw 70 = .ok (.lload 6, 2) := by decide +kernel
theorem dX5_draw_72 : decode cX5_draw 72 = .ok (.bipush 33, 2) := by decide +kernel
theorem dX5_draw_74 : decode cX5_draw 74 = .ok (.lushr, 1) := by decide +kernel
theorem dX5_draw_75 : decode cX5_draw 75 = .ok (.lload 9, 2) := by decide +kernel
theorem dX5_draw_77 : decode cX5_draw 77 = .ok (.lrem, 1) := by decide +kernel
theorem dX5_draw_78 : decode cX5_draw 78 = .ok (.lload 11, 2) := by decide +kernel
theorem dX5_draw_80 : decode cX5_draw 80 = .ok (.lcmp, 1) := by decide +kernel
theorem dX5_draw_81 : decode cX5_draw 81 = .ok (.ifCond .ge 15, 3) := by decide +kernel
theorem dX5_draw_84 : decode cX5_draw 84 = .ok (.iload 4, 2) := by decide +kernel
theorem dX5_draw_86 : decode cX5_draw 86 = .ok (.iconst 1, 1) := by decide +kernel
theorem dX5_draw_87 : decode cX5_draw 87 = .ok (.iload 8, 2) := by decide +kernel
theorem dX5_draw_89 : decode cX5_draw 89 = .ok (.ishl, 1) := by decide +kernel
theorem dX5_draw_90 : decode cX5_draw 90 = .ok (.ior, 1) := by decide +kernel
theorem dX5_draw_91 : decode cX5_draw 91 = .ok (.istore 4, 2) := by decide +kernel
theorem dX5_draw_93 : decode cX5_draw 93 = .ok (.goto 12, 3) := by decide +kernel
theorem dX5_draw_96 : decode cX5_draw 96 = .ok (.iload 5, 2) := by decide +kernel
theorem dX5_draw_98 : decode cX5_draw 98 = .ok (.iconst 1, 1) := by decide +kernel
theorem dX5_draw_99 : decode cX5_draw 99 = .ok (.iload 8, 2) := by decide +kernel
theorem dX5_draw_101 : decode cX5_draw 101 = .ok (.ishl, 1) := by decide +kernel
theorem dX5_draw_102 : decode cX5_draw 102 = .ok (.ior, 1) := by decide +kernel
theorem dX5_draw_103 : decode cX5_draw 103 = .ok (.istore 5, 2) := by decide +kernel
theorem dX5_draw_105 : decode cX5_draw 105 = .ok (.iinc 8 1, 3) := by decide +kernel
theorem dX5_draw_108 : decode cX5_draw 108 = .ok (.goto (-86), 3) := by decide +kernel
theorem dX5_draw_111 : decode cX5_draw 111 = .ok (.iload 4, 2) := by decide +kernel
theorem dX5_draw_113 : decode cX5_draw 113 = .ok (.ireturn, 1) := by decide +kernel
end
section
theorem dJ6_bitCount_0f7a4_0 : decode cJ6_bitCount_0f7a4 0 = .ok (.iload_n 0, 1) := by decide +kernel
theorem dJ6_bitCount_0f7a4_1 : decode cJ6_bitCount_0f7a4 1 = .ok (.iload_n 0, 1) := by decide +kernel
theorem dJ6_bitCount_0f7a4_2 : decode cJ6_bitCount_0f7a4 2 = .ok (.iconst 1, 1) := by decide +kernel
theorem dJ6_bitCount_0f7a4_3 : decode cJ6_bitCount_0f7a4 3 = .ok (.iushr, 1) := by decide +kernel
theorem dJ6_bitCount_0f7a4_4 : decode cJ6_bitCount_0f7a4 4 = .ok (.ldc_w 265, 3) := by decide +kernel
theorem dJ6_bitCount_0f7a4_7 : decode cJ6_bitCount_0f7a4 7 = .ok (.iand, 1) := by decide +kernel
theorem dJ6_bitCount_0f7a4_8 : decode cJ6_bitCount_0f7a4 8 = .ok (.isub, 1) := by decide +kernel
theorem dJ6_bitCount_0f7a4_9 : decode cJ6_bitCount_0f7a4 9 = .ok (.istore_n 0, 1) := by decide +kernel
theorem dJ6_bitCount_0f7a4_10 : decode cJ6_bitCount_0f7a4 10 = .ok (.iload_n 0, 1) := by decide +kernel
theorem dJ6_bitCount_0f7a4_11 : decode cJ6_bitCount_0f7a4 11 = .ok (.ldc_w 266, 3) := by decide +kernel
theorem dJ6_bitCount_0f7a4_14 : decode cJ6_bitCount_0f7a4 14 = .ok (.iand, 1) := by decide +kernel
theorem dJ6_bitCount_0f7a4_15 : decode cJ6_bitCount_0f7a4 15 = .ok (.iload_n 0, 1) := by decide +kernel
theorem dJ6_bitCount_0f7a4_16 : decode cJ6_bitCount_0f7a4 16 = .ok (.iconst 2, 1) := by decide +kernel
theorem dJ6_bitCount_0f7a4_17 : decode cJ6_bitCount_0f7a4 17 = .ok (.iushr, 1) := by decide +kernel
theorem dJ6_bitCount_0f7a4_18 : decode cJ6_bitCount_0f7a4 18 = .ok (.ldc_w 266, 3) := by decide +kernel
theorem dJ6_bitCount_0f7a4_21 : decode cJ6_bitCount_0f7a4 21 = .ok (.iand, 1) := by decide +kernel
theorem dJ6_bitCount_0f7a4_22 : decode cJ6_bitCount_0f7a4 22 = .ok (.iadd, 1) := by decide +kernel
theorem dJ6_bitCount_0f7a4_23 : decode cJ6_bitCount_0f7a4 23 = .ok (.istore_n 0, 1) := by decide +kernel
theorem dJ6_bitCount_0f7a4_24 : decode cJ6_bitCount_0f7a4 24 = .ok (.iload_n 0, 1) := by decide +kernel
theorem dJ6_bitCount_0f7a4_25 : decode cJ6_bitCount_0f7a4 25 = .ok (.iload_n 0, 1) := by decide +kernel
theorem dJ6_bitCount_0f7a4_26 : decode cJ6_bitCount_0f7a4 26 = .ok (.iconst 4, 1) := by decide +kernel
theorem dJ6_bitCount_0f7a4_27 : decode cJ6_bitCount_0f7a4 27 = .ok (.iushr, 1) := by decide +kernel
theorem dJ6_bitCount_0f7a4_28 : decode cJ6_bitCount_0f7a4 28 = .ok (.iadd, 1) := by decide +kernel
theorem dJ6_bitCount_0f7a4_29 : decode cJ6_bitCount_0f7a4 29 = .ok (.ldc_w 267, 3) := by decide +kernel
theorem dJ6_bitCount_0f7a4_32 : decode cJ6_bitCount_0f7a4 32 = .ok (.iand, 1) := by decide +kernel
theorem dJ6_bitCount_0f7a4_33 : decode cJ6_bitCount_0f7a4 33 = .ok (.istore_n 0, 1) := by decide +kernel
theorem dJ6_bitCount_0f7a4_34 : decode cJ6_bitCount_0f7a4 34 = .ok (.iload_n 0, 1) := by decide +kernel
theorem dJ6_bitCount_0f7a4_35 : decode cJ6_bitCount_0f7a4 35 = .ok (.iload_n 0, 1) := by decide +kernel
theorem dJ6_bitCount_0f7a4_36 : decode cJ6_bitCount_0f7a4 36 = .ok (.bipush 8, 2) := by decide +kernel
theorem dJ6_bitCount_0f7a4_38 : decode cJ6_bitCount_0f7a4 38 = .ok (.iushr, 1) := by decide +kernel
theorem dJ6_bitCount_0f7a4_39 : decode cJ6_bitCount_0f7a4 39 = .ok (.iadd, 1) := by decide +kernel
theorem dJ6_bitCount_0f7a4_40 : decode cJ6_bitCount_0f7a4 40 = .ok (.istore_n 0, 1) := by decide +kernel
theorem dJ6_bitCount_0f7a4_41 : decode cJ6_bitCount_0f7a4 41 = .ok (.iload_n 0, 1) := by decide +kernel
theorem dJ6_bitCount_0f7a4_42 : decode cJ6_bitCount_0f7a4 42 = .ok (.iload_n 0, 1) := by decide +kernel
theorem dJ6_bitCount_0f7a4_43 : decode cJ6_bitCount_0f7a4 43 = .ok (.bipush 16, 2) := by decide +kernel
theorem dJ6_bitCount_0f7a4_45 : decode cJ6_bitCount_0f7a4 45 = .ok (.iushr, 1) := by decide +kernel
theorem dJ6_bitCount_0f7a4_46 : decode cJ6_bitCount_0f7a4 46 = .ok (.iadd, 1) := by decide +kernel
theorem dJ6_bitCount_0f7a4_47 : decode cJ6_bitCount_0f7a4 47 = .ok (.istore_n 0, 1) := by decide +kernel
theorem dJ6_bitCount_0f7a4_48 : decode cJ6_bitCount_0f7a4 48 = .ok (.iload_n 0, 1) := by decide +kernel
theorem dJ6_bitCount_0f7a4_49 : decode cJ6_bitCount_0f7a4 49 = .ok (.bipush 63, 2) := by decide +kernel
theorem dJ6_bitCount_0f7a4_51 : decode cJ6_bitCount_0f7a4 51 = .ok (.iand, 1) := by decide +kernel
theorem dJ6_bitCount_0f7a4_52 : decode cJ6_bitCount_0f7a4 52 = .ok (.ireturn, 1) := by decide +kernel
theorem dJ9_abs_067f4_0 : decode cJ9_abs_067f4 0 = .ok (.lload_n 0, 1) := by decide +kernel
theorem dJ9_abs_067f4_1 : decode cJ9_abs_067f4 1 = .ok (.lconst 0, 1) := by decide +kernel
theorem dJ9_abs_067f4_2 : decode cJ9_abs_067f4 2 = .ok (.lcmp, 1) := by decide +kernel
theorem dJ9_abs_067f4_3 : decode cJ9_abs_067f4 3 = .ok (.ifCond .ge 8, 3) := by decide +kernel
theorem dJ9_abs_067f4_6 : decode cJ9_abs_067f4 6 = .ok (.lload_n 0, 1) := by decide +kernel
theorem dJ9_abs_067f4_7 : decode cJ9_abs_067f4 7 = .ok (.lneg, 1) := by decide +kernel
theorem dJ9_abs_067f4_8 : decode cJ9_abs_067f4 8 = .ok (.goto 4, 3) := by decide +kernel
theorem dJ9_abs_067f4_11 : decode cJ9_abs_067f4 11 = .ok (.lload_n 0, 1) := by decide +kernel
theorem dJ9_abs_067f4_12 : decode cJ9_abs_067f4 12 = .ok (.lreturn, 1) := by decide +kernel
theorem dJ9_max_7cf53_0 : decode cJ9_max_7cf53 0 = .ok (.iload_n 0, 1) := by decide +kernel
theorem dJ9_max_7cf53_1 : decode cJ9_max_7cf53 1 = .ok (.iload_n 1, 1) := by decide +kernel
theorem dJ9_max_7cf53_2 : decode cJ9_max_7cf53 2 = .ok (.if_icmp .lt 7, 3) := by decide +kernel
theorem dJ9_max_7cf53_5 : decode cJ9_max_7cf53 5 = .ok (.iload_n 0, 1) := by decide +kernel
theorem dJ9_max_7cf53_6 : decode cJ9_max_7cf53 6 = .ok (.goto 4, 3) := by decide +kernel
theorem dJ9_max_7cf53_9 : decode cJ9_max_7cf53 9 = .ok (.iload_n 1, 1) := by decide +kernel
theorem dJ9_max_7cf53_10 : decode cJ9_max_7cf53 10 = .ok (.ireturn, 1) := by decide +kernel
theorem dJ9_min_7cf53_0 : decode cJ9_min_7cf53 0 = .ok (.iload_n 0, 1) := by decide +kernel
theorem dJ9_min_7cf53_1 : decode cJ9_min_7cf53 1 = .ok (.iload_n 1, 1) := by decide +kernel
theorem dJ9_min_7cf53_2 : decode cJ9_min_7cf53 2 = .ok (.if_icmp .gt 7, 3) := by decide +kernel
theorem dJ9_min_7cf53_5 : decode cJ9_min_7cf53 5 = .ok (.iload_n 0, 1) := by decide +kernel
theorem dJ9_min_7cf53_6 : decode cJ9_min_7cf53 6 = .ok (.goto 4, 3) := by decide +kernel
theorem dJ9_min_7cf53_9 : decode cJ9_min_7cf53 9 = .ok (.iload_n 1, 1) := by decide +kernel
theorem dJ9_min_7cf53_10 : decode cJ9_min_7cf53 10 = .ok (.ireturn, 1) := by decide +kernel
theorem dL_cell_0 : decode cL_cell 0 = .ok (.iload_n 1, 1) := by decide +kernel
theorem dL_cell_1 : decode cL_cell 1 = .ok (.aload_n 0, 1) := by decide +kernel
theorem dL_cell_2 : decode cL_cell 2 = .ok (.arraylength, 1) := by decide +kernel
theorem dL_cell_3 : decode cL_cell 3 = .ok (.if_icmp .ge 9, 3) := by decide +kernel
theorem dL_cell_6 : decode cL_cell 6 = .ok (.aload_n 0, 1) := by decide +kernel
theorem dL_cell_7 : decode cL_cell 7 = .ok (.iload_n 1, 1) := by decide +kernel
theorem dL_cell_8 : decode cL_cell 8 = .ok (.iaload, 1) := by decide +kernel
theorem dL_cell_9 : decode cL_cell 9 = .ok (.goto 4, 3) := by decide +kernel
theorem dL_cell_12 : decode cL_cell 12 = .ok (.iconst 0, 1) := by decide +kernel
theorem dL_cell_13 : decode cL_cell 13 = .ok (.ireturn, 1) := by decide +kernel
set_option maxRecDepth 20000 in
theorem ggL_law_L_cell : GoodIn wsL_law wsL_cell := goodIn_r _ [10] (by decide +kernel) (by decide +kernel)
set_option maxRecDepth 20000 in
theorem gL_law_L_cell : GoodIn wsL_law (va_wsS RL 9 yL_cell wsL_cell) := goodIn_app (goodIn_of _ (by decide +kernel)) ggL_law_L_cell
set_option maxRecDepth 20000 in
theorem ggL_law_X4_init : GoodIn wsL_law wsX4_init := goodIn_r _ [13, 14, 15, 16, 17, 18, 19, 20, 21, 22, 23, 24, 25, 26, 27, 28, 29, 30, 31, 32, 33, 34, 35, 36, 37, 38, 39, 40, 41, 42, 43, 44, 45, 46, 47, 48, 49, 50, 51, 52, 53, 54, 55, 56, 57, 58, 59, 60, 61, 62, 63, 64, 65, 66, 67, 68, 69, 570, 571, 572, 573, 574, 575, 576, 577, 591, 592, 593, 594, 595, 596, 597, 598, 599, 600, 601, 602] (by decide +kernel) (by decide +kernel)
set_option maxRecDepth 20000 in
theorem gL_law_X4_init : GoodIn wsL_law (wsX4_init) := ggL_law_X4_init
set_option maxRecDepth 20000 in
theorem ggL_law_X5_init : GoodIn wsL_law wsX5_init := goodIn_r _ [72, 73, 15, 16, 50, 74, 75, 38, 76, 77, 78, 79, 80, 81, 82, 83, 84, 85, 86, 87, 578, 579, 580, 581, 582, 583, 584, 585, 586, 587, 588, 589, 590] (by decide +kernel) (by decide +kernel)
set_option maxRecDepth 20000 in
theorem gL_law_X5_init : GoodIn wsL_law (wsX5_init) := ggL_law_X5_init
set_option maxRecDepth 20000 in
theorem ggL_law_X4_entry : GoodIn wsL_law wsX4_entry := goodIn_r _ [91, 27, 92, 93, 2, 94, 95, 96, 97, 98, 99, 100, 101, 24, 102, 103, 104, 31, 105, 51, 49, 570, 571, 572, 573, 574, 575, 576, 577, 591, 592] (by decide +kernel) (by decide +kernel)
set_option maxRecDepth 20000 in
theorem gL_law_X4_entry : GoodIn wsL_law (wsV RL 21 RX4 yX4_entry wsX4_entry) := goodIn_app (goodIn_of _ (by decide +kernel)) ggL_law_X4_entry
set_option maxRecDepth 20000 in
theorem ggL_law_X5_entry : GoodIn wsL_law wsX5_entry := goodIn_r _ [109, 74, 110, 111, 5, 112, 113, 114, 115, 116, 117, 118, 119, 86, 578, 579, 580, 581, 582, 583, 584, 585, 586, 587, 588, 589, 590] (by decide +kernel) (by decide +kernel)
set_option maxRecDepth 20000 in
theorem gL_law_X5_entry : GoodIn wsL_law (wsV RL 25 RX5 yX5_entry wsX5_entry) := goodIn_app (goodIn_of _ (by decide +kernel)) ggL_law_X5_entry
set_option maxRecDepth 20000 in
theorem ggL_law_X4_told : GoodIn wsL_law wsX4_told := goodIn_r _ [123, 27, 92, 93, 2, 94, 95, 96, 97, 98, 99, 100, 101, 24, 124, 125, 126, 31, 127, 51, 49, 570, 571, 572, 573, 574, 575, 576, 577, 591, 592] (by decide +kernel) (by decide +kernel)
set_option maxRecDepth 20000 in
theorem gL_law_X4_told : GoodIn wsL_law (wsV RL 26 RX4 yX4_told wsX4_told) := goodIn_app (goodIn_of _ (by decide +kernel)) ggL_law_X4_told
set_option maxRecDepth 20000 in
theorem ggL_law_X5_told : GoodIn wsL_law wsX5_told := goodIn_r _ [131, 74, 110, 111, 5, 112, 113, 114, 115, 116, 117, 118, 119, 86, 578, 579, 580, 581, 582, 583, 584, 585, 586, 587, 588, 589, 590] (by decide +kernel) (by decide +kernel)
set_option maxRecDepth 20000 in
theorem gL_law_X5_told : GoodIn wsL_law (wsV RL 30 RX5 yX5_told wsX5_told) := goodIn_app (goodIn_of _ (by decide +kernel)) ggL_law_X5_told
set_option maxRecDepth 20000 in
theorem ggL_law_X4_worth : GoodIn wsL_law wsX4_worth := goodIn_r _ [135, 27, 44, 92, 93, 2, 94, 95, 96, 97, 136, 137, 138, 139, 25, 140, 141, 142, 31, 143, 49, 144, 145, 146, 147, 148, 149, 150, 151, 152, 153, 43, 154, 155, 18, 19, 20, 156, 22, 23, 157, 68, 158, 159, 160, 161, 162, 163, 164, 125, 126, 127, 51, 165, 166, 167, 168, 169, 170, 171, 172, 69, 173, 174, 175, 176, 177, 570, 571, 572, 573, 574, 575, 576, 577, 591, 592, 600, 601, 602] (by decide +kernel) (by decide +kernel)
set_option maxRecDepth 20000 in
theorem gL_law_X4_worth : GoodIn wsL_law (wsV RL 31 RX4 yX4_worth wsX4_worth) := goodIn_app (goodIn_of _ (by decide +kernel)) ggL_law_X4_worth
set_option maxRecDepth 20000 in
theorem ggL_law_X5_worth : GoodIn wsL_law wsX5_worth := goodIn_r _ [181, 110, 111, 5, 112, 113, 114, 115, 182, 183, 184, 185, 87, 186, 187, 188, 189, 86, 75, 76, 74, 190, 191, 192, 578, 579, 580, 581, 582, 583, 584, 585, 586, 587, 588, 589, 590] (by decide +kernel) (by decide +kernel)
set_option maxRecDepth 20000 in
theorem gL_law_X5_worth : GoodIn wsL_law (wsV RL 35 RX5 yX5_worth wsX5_worth) := goodIn_app (goodIn_of _ (by decide +kernel)) ggL_law_X5_worth
set_option maxRecDepth 20000 in
theorem ggL_law_X4_why : GoodIn wsL_law wsX4_why := goodIn_r _ [196, 27, 92, 93, 2, 94, 95, 96, 97, 197, 198, 199, 200, 25, 40, 44, 140, 141, 142, 31, 143, 49, 144, 145, 146, 147, 148, 149, 150, 151, 152, 153, 43, 154, 155, 18, 19, 20, 156, 22, 23, 157, 68, 158, 159, 160, 161, 162, 163, 164, 125, 126, 127, 51, 165, 166, 167, 168, 169, 170, 171, 172, 69, 173, 174, 175, 176, 177, 570, 571, 572, 573, 574, 575, 576, 577, 591, 592, 600, 601, 602] (by decide +kernel) (by decide +kernel)
set_option maxRecDepth 20000 in
theorem gL_law_X4_why : GoodIn wsL_law (wsV RL 36 RX4 yX4_why wsX4_why) := goodIn_app (goodIn_of _ (by decide +kernel)) ggL_law_X4_why
set_option maxRecDepth 20000 in
theorem ggL_law_X5_why : GoodIn wsL_law wsX5_why := goodIn_r _ [204, 87, 110, 111, 5, 112, 113, 114, 115, 186, 187, 188, 189, 86, 75, 76, 74, 190, 191, 192, 578, 579, 580, 581, 582, 583, 584, 585, 586, 587, 588, 589, 590] (by decide +kernel) (by decide +kernel)
set_option maxRecDepth 20000 in
theorem gL_law_X5_why : GoodIn wsL_law (wsV RL 40 RX5 yX5_why wsX5_why) := goodIn_app (goodIn_of _ (by decide +kernel)) ggL_law_X5_why
set_option maxRecDepth 20000 in
theorem ggL_law_X4_whole : GoodIn wsL_law wsX4_whole := goodIn_r _ [208, 27, 25, 44, 92, 93, 2, 94, 95, 96, 97, 140, 141, 142, 31, 143, 49, 144, 145, 146, 147, 148, 149, 150, 151, 152, 153, 43, 154, 155, 18, 19, 20, 156, 22, 23, 157, 68, 158, 159, 160, 161, 162, 163, 164, 125, 126, 127, 51, 165, 166, 167, 168, 169, 170, 171, 172, 69, 173, 174, 175, 176, 177, 570, 571, 572, 573, 574, 575, 576, 577, 591, 592, 600, 601, 602] (by decide +kernel) (by decide +kernel)
set_option maxRecDepth 20000 in
theorem gL_law_X4_whole : GoodIn wsL_law (wsV RL 41 RX4 yX4_whole wsX4_whole) := goodIn_app (goodIn_of _ (by decide +kernel)) ggL_law_X4_whole
set_option maxRecDepth 20000 in
theorem ggL_law_X5_whole : GoodIn wsL_law wsX5_whole := goodIn_r _ [212, 87, 110, 111, 5, 112, 113, 114, 115, 186, 187, 188, 189, 86, 75, 76, 74, 190, 191, 192, 578, 579, 580, 581, 582, 583, 584, 585, 586, 587, 588, 589, 590] (by decide +kernel) (by decide +kernel)
set_option maxRecDepth 20000 in
theorem gL_law_X5_whole : GoodIn wsL_law (wsV RL 45 RX5 yX5_whole wsX5_whole) := goodIn_app (goodIn_of _ (by decide +kernel)) ggL_law_X5_whole
set_option maxRecDepth 20000 in
theorem ggL_law_X4_shun : GoodIn wsL_law wsX4_shun := goodIn_r _ [216, 27, 92, 93, 2, 94, 95, 96, 97, 197, 198, 199, 200, 25, 40, 44, 140, 141, 142, 31, 143, 49, 144, 145, 146, 147, 148, 149, 150, 151, 152, 153, 43, 154, 155, 18, 19, 20, 156, 22, 23, 157, 68, 158, 159, 160, 161, 162, 163, 164, 125, 126, 127, 51, 165, 166, 167, 168, 169, 170, 171, 172, 69, 173, 174, 175, 176, 177, 217, 218, 219, 220, 221, 29, 222, 223, 224, 225, 226, 227, 33, 228, 229, 56, 230, 570, 571, 572, 573, 574, 575, 576, 577, 591, 592, 600, 601, 602, 593, 594, 595] (by decide +kernel) (by decide +kernel)
set_option maxRecDepth 20000 in
theorem gL_law_X4_shun : GoodIn wsL_law (wsV RL 46 RX4 yX4_shun wsX4_shun) := goodIn_app (goodIn_of _ (by decide +kernel)) ggL_law_X4_shun
set_option maxRecDepth 20000 in
theorem ggL_law_X5_shun : GoodIn wsL_law wsX5_shun := goodIn_r _ [234, 87, 78, 110, 111, 5, 112, 113, 114, 115, 235, 202, 203, 204, 186, 187, 188, 189, 86, 75, 76, 74, 190, 191, 192, 236, 237, 238, 239, 240, 241, 242, 243, 244, 77, 81, 245, 246, 247, 578, 579, 580, 581, 582, 583, 584, 585, 586, 587, 588, 589, 590] (by decide +kernel) (by decide +kernel)
set_option maxRecDepth 20000 in
theorem gL_law_X5_shun : GoodIn wsL_law (wsV RL 50 RX5 yX5_shun wsX5_shun) := goodIn_app (goodIn_of _ (by decide +kernel)) ggL_law_X5_shun
set_option maxRecDepth 20000 in
theorem ggL_law_X4_edge : GoodIn wsL_law wsX4_edge := goodIn_r _ [251, 37, 98, 99, 100, 2, 101, 24, 95, 96, 97, 252, 253, 254, 255, 256, 257, 36, 258, 62, 63, 64, 570, 571, 572, 573, 574, 575, 576, 577, 596, 597, 598, 599] (by decide +kernel) (by decide +kernel)
set_option maxRecDepth 20000 in
theorem gL_law_X4_edge : GoodIn wsL_law (wsV RL 51 RX4 yX4_edge wsX4_edge) := goodIn_app (goodIn_of _ (by decide +kernel)) ggL_law_X4_edge
set_option maxRecDepth 20000 in
theorem ggL_law_X5_edge : GoodIn wsL_law wsX5_edge := goodIn_r _ [262, 82, 83, 84, 116, 117, 118, 5, 119, 86, 113, 114, 115, 578, 579, 580, 581, 582, 583, 584, 585, 586, 587, 588, 589, 590] (by decide +kernel) (by decide +kernel)
set_option maxRecDepth 20000 in
theorem gL_law_X5_edge : GoodIn wsL_law (wsV RL 54 RX5 yX5_edge wsX5_edge) := goodIn_app (goodIn_of _ (by decide +kernel)) ggL_law_X5_edge
set_option maxRecDepth 20000 in
theorem ggL_law_X4_all : GoodIn wsL_law wsX4_all := goodIn_r _ [266, 37, 44, 267, 268, 2, 269, 95, 96, 97, 270, 271, 272, 36, 273, 61, 62, 63, 64, 274, 152, 153, 43, 154, 155, 18, 19, 20, 156, 22, 23, 157, 68, 275, 166, 167, 168, 276, 170, 171, 172, 69, 173, 174, 175, 176, 177, 145, 146, 147, 148, 149, 150, 570, 571, 572, 573, 574, 575, 576, 577, 596, 597, 598, 599, 600, 601, 602] (by decide +kernel) (by decide +kernel)
set_option maxRecDepth 20000 in
theorem gL_law_X4_all : GoodIn wsL_law (wsV RL 55 RX4 yX4_all wsX4_all) := goodIn_app (goodIn_of _ (by decide +kernel)) ggL_law_X4_all
set_option maxRecDepth 20000 in
theorem ggL_law_X5_all : GoodIn wsL_law wsX5_all := goodIn_r _ [280, 87, 113, 114, 5, 115, 281, 282, 283, 284, 85, 86, 82, 83, 84, 190, 191, 192, 578, 579, 580, 581, 582, 583, 584, 585, 586, 587, 588, 589, 590] (by decide +kernel) (by decide +kernel)
set_option maxRecDepth 20000 in
theorem gL_law_X5_all : GoodIn wsL_law (wsV RL 58 RX5 yX5_all wsX5_all) := goodIn_app (goodIn_of _ (by decide +kernel)) ggL_law_X5_all
set_option maxRecDepth 20000 in
theorem ggL_law_X4_trees : GoodIn wsL_law wsX4_trees := goodIn_r _ [288, 25, 40, 37, 267, 268, 2, 269, 95, 96, 97, 92, 93, 94, 289, 290, 291, 36, 292, 293, 145, 146, 147, 148, 149, 150, 294, 295, 296, 297, 61, 62, 63, 158, 159, 298, 299, 300, 301, 64, 217, 218, 219, 220, 221, 29, 222, 223, 224, 225, 226, 227, 33, 228, 229, 56, 230, 570, 571, 572, 573, 574, 575, 576, 577, 596, 597, 598, 599, 593, 594, 595] (by decide +kernel) (by decide +kernel)
set_option maxRecDepth 20000 in
theorem gL_law_X4_trees : GoodIn wsL_law (wsV RL 59 RX4 yX4_trees wsX4_trees) := goodIn_app (goodIn_of _ (by decide +kernel)) ggL_law_X4_trees
set_option maxRecDepth 20000 in
theorem ggL_law_X5_trees : GoodIn wsL_law wsX5_trees := goodIn_r _ [305, 87, 78, 113, 114, 5, 115, 110, 111, 112, 236, 237, 238, 239, 281, 282, 283, 284, 85, 86, 82, 83, 84, 190, 191, 192, 240, 241, 242, 243, 244, 77, 81, 245, 246, 247, 578, 579, 580, 581, 582, 583, 584, 585, 586, 587, 588, 589, 590] (by decide +kernel) (by decide +kernel)
set_option maxRecDepth 20000 in
theorem gL_law_X5_trees : GoodIn wsL_law (wsV RL 62 RX5 yX5_trees wsX5_trees) := goodIn_app (goodIn_of _ (by decide +kernel)) ggL_law_X5_trees
set_option maxRecDepth 20000 in
theorem ggL_law_X4_tell : GoodIn wsL_law wsX4_tell := goodIn_r _ [309, 221, 39, 136, 137, 138, 2, 139, 25, 95, 96, 97, 570, 571, 572, 573, 574, 575, 576, 577] (by decide +kernel) (by decide +kernel)
set_option maxRecDepth 20000 in
theorem gL_law_X4_tell : GoodIn wsL_law (wsV RL 63 RX4 yX4_tell wsX4_tell) := goodIn_app (goodIn_of _ (by decide +kernel)) ggL_law_X4_tell
set_option maxRecDepth 20000 in
theorem ggL_law_X5_tell : GoodIn wsL_law wsX5_tell := goodIn_r _ [313, 314, 79, 182, 183, 184, 5, 185, 87, 113, 114, 115, 578, 579, 580, 581, 582, 583, 584, 585, 586, 587, 588, 589, 590] (by decide +kernel) (by decide +kernel)
set_option maxRecDepth 20000 in
theorem gL_law_X5_tell : GoodIn wsL_law (wsV RL 66 RX5 yX5_tell wsX5_tell) := goodIn_app (goodIn_of _ (by decide +kernel)) ggL_law_X5_tell
set_option maxRecDepth 20000 in
theorem ggL_law_X4_hand : GoodIn wsL_law wsX4_hand := goodIn_r _ [318, 39, 40, 25, 319, 320, 321, 322, 92, 93, 2, 94, 95, 96, 97, 217, 218, 219, 220, 221, 29, 222, 223, 224, 225, 226, 227, 33, 228, 229, 56, 230, 570, 571, 572, 573, 574, 575, 576, 577, 593, 594, 595] (by decide +kernel) (by decide +kernel)
set_option maxRecDepth 20000 in
theorem gL_law_X4_hand : GoodIn wsL_law (wsV RL 67 RX4 yX4_hand wsX4_hand) := goodIn_app (goodIn_of _ (by decide +kernel)) ggL_law_X4_hand
set_option maxRecDepth 20000 in
theorem ggL_law_X5_hand : GoodIn wsL_law wsX5_hand := goodIn_r _ [326, 87, 78, 79, 110, 111, 5, 112, 113, 114, 115, 236, 237, 238, 239, 240, 241, 242, 243, 244, 77, 81, 245, 246, 247, 578, 579, 580, 581, 582, 583, 584, 585, 586, 587, 588, 589, 590] (by decide +kernel) (by decide +kernel)
set_option maxRecDepth 20000 in
theorem gL_law_X5_hand : GoodIn wsL_law (wsV RL 71 RX5 yX5_hand wsX5_hand) := goodIn_app (goodIn_of _ (by decide +kernel)) ggL_law_X5_hand
set_option maxRecDepth 20000 in
theorem ggL_law_X4_given : GoodIn wsL_law wsX4_given := goodIn_r _ [330, 25, 40, 331, 332, 333, 334, 2, 335, 29, 336, 92, 93, 94, 95, 96, 97, 136, 137, 138, 139, 337, 338, 339, 217, 218, 219, 220, 221, 222, 223, 224, 225, 226, 227, 33, 228, 229, 56, 230, 570, 571, 572, 573, 574, 575, 576, 577, 593, 594, 595] (by decide +kernel) (by decide +kernel)
set_option maxRecDepth 20000 in
theorem gL_law_X4_given : GoodIn wsL_law (wsV RL 72 RX4 yX4_given wsX4_given) := goodIn_app (goodIn_of _ (by decide +kernel)) ggL_law_X4_given
set_option maxRecDepth 20000 in
theorem ggL_law_X5_given : GoodIn wsL_law wsX5_given := goodIn_r _ [343, 87, 78, 77, 344, 345, 346, 5, 347, 81, 110, 111, 112, 113, 114, 115, 182, 183, 184, 185, 236, 237, 238, 239, 240, 241, 242, 243, 244, 245, 246, 247, 578, 579, 580, 581, 582, 583, 584, 585, 586, 587, 588, 589, 590] (by decide +kernel) (by decide +kernel)
set_option maxRecDepth 20000 in
theorem gL_law_X5_given : GoodIn wsL_law (wsV RL 75 RX5 yX5_given wsX5_given) := goodIn_app (goodIn_of _ (by decide +kernel)) ggL_law_X5_given
set_option maxRecDepth 20000 in
theorem ggL_law_X4_thin : GoodIn wsL_law wsX4_thin := goodIn_r _ [351, 331, 40, 25, 319, 320, 321, 322, 24, 332, 333, 334, 2, 335, 29, 336, 92, 93, 94, 95, 96, 97, 136, 137, 138, 139, 352, 158, 159, 353, 354, 355, 356, 357, 217, 218, 219, 220, 221, 222, 223, 224, 225, 226, 227, 33, 228, 229, 56, 230, 593, 594, 595, 570, 571, 572, 573, 574, 575, 576, 577] (by decide +kernel) (by decide +kernel)
set_option maxRecDepth 20000 in
theorem gL_law_X4_thin : GoodIn wsL_law (wsV RL 76 RX4 yX4_thin wsX4_thin) := goodIn_app (goodIn_of _ (by decide +kernel)) ggL_law_X4_thin
set_option maxRecDepth 20000 in
theorem ggL_law_X5_thin : GoodIn wsL_law wsX5_thin := goodIn_r _ [361, 87, 78, 77, 362, 363, 364, 5, 365, 344, 345, 346, 347, 81, 110, 111, 112, 113, 114, 115, 182, 183, 184, 185, 236, 237, 238, 239, 190, 191, 192, 240, 241, 242, 243, 244, 245, 246, 247, 578, 579, 580, 581, 582, 583, 584, 585, 586, 587, 588, 589, 590] (by decide +kernel) (by decide +kernel)
set_option maxRecDepth 20000 in
theorem gL_law_X5_thin : GoodIn wsL_law (wsV RL 80 RX5 yX5_thin wsX5_thin) := goodIn_app (goodIn_of _ (by decide +kernel)) ggL_law_X5_thin
set_option maxRecDepth 20000 in
theorem ggL_law_X4_part : GoodIn wsL_law wsX4_part := goodIn_r _ [369, 25, 40, 331, 332, 333, 334, 2, 335, 29, 336, 92, 93, 94, 95, 96, 97, 136, 137, 138, 139, 217, 218, 219, 220, 221, 222, 223, 224, 225, 226, 227, 33, 228, 229, 56, 230, 570, 571, 572, 573, 574, 575, 576, 577, 593, 594, 595] (by decide +kernel) (by decide +kernel)
set_option maxRecDepth 20000 in
theorem gL_law_X4_part : GoodIn wsL_law (wsV RL 81 RX4 yX4_part wsX4_part) := goodIn_app (goodIn_of _ (by decide +kernel)) ggL_law_X4_part
set_option maxRecDepth 20000 in
theorem ggL_law_X5_part : GoodIn wsL_law wsX5_part := goodIn_r _ [373, 87, 78, 77, 362, 363, 364, 5, 365, 344, 345, 346, 347, 81, 110, 111, 112, 113, 114, 115, 182, 183, 184, 185, 236, 237, 238, 239, 240, 241, 242, 243, 244, 245, 246, 247, 578, 579, 580, 581, 582, 583, 584, 585, 586, 587, 588, 589, 590] (by decide +kernel) (by decide +kernel)
set_option maxRecDepth 20000 in
theorem gL_law_X5_part : GoodIn wsL_law (wsV RL 84 RX5 yX5_part wsX5_part) := goodIn_app (goodIn_of _ (by decide +kernel)) ggL_law_X5_part
set_option maxRecDepth 20000 in
theorem ggL_law_X4_other : GoodIn wsL_law wsX4_other := goodIn_r _ [377, 25, 40, 331, 332, 333, 334, 2, 335, 29, 336, 92, 93, 94, 95, 96, 97, 136, 137, 138, 139, 217, 218, 219, 220, 221, 222, 223, 224, 225, 226, 227, 33, 228, 229, 56, 230, 570, 571, 572, 573, 574, 575, 576, 577, 593, 594, 595] (by decide +kernel) (by decide +kernel)
set_option maxRecDepth 20000 in
theorem gL_law_X4_other : GoodIn wsL_law (wsV RL 85 RX4 yX4_other wsX4_other) := goodIn_app (goodIn_of _ (by decide +kernel)) ggL_law_X4_other
set_option maxRecDepth 20000 in
theorem ggL_law_X5_other : GoodIn wsL_law wsX5_other := goodIn_r _ [381, 87, 78, 77, 362, 363, 364, 5, 365, 344, 345, 346, 347, 81, 110, 111, 112, 113, 114, 115, 182, 183, 184, 185, 236, 237, 238, 239, 240, 241, 242, 243, 244, 245, 246, 247, 578, 579, 580, 581, 582, 583, 584, 585, 586, 587, 588, 589, 590] (by decide +kernel) (by decide +kernel)
set_option maxRecDepth 20000 in
theorem gL_law_X5_other : GoodIn wsL_law (wsV RL 88 RX5 yX5_other wsX5_other) := goodIn_app (goodIn_of _ (by decide +kernel)) ggL_law_X5_other
set_option maxRecDepth 20000 in
theorem ggL_law_X4_mix : GoodIn wsL_law wsX4_mix := goodIn_r _ [385, 386, 25, 40, 331, 332, 333, 334, 2, 335, 29, 336, 92, 93, 94, 95, 96, 97, 217, 218, 219, 220, 221, 222, 223, 224, 225, 226, 227, 33, 228, 229, 56, 230, 593, 594, 595, 570, 571, 572, 573, 574, 575, 576, 577] (by decide +kernel) (by decide +kernel)
set_option maxRecDepth 20000 in
theorem gL_law_X4_mix : GoodIn wsL_law (wsV RL 89 RX4 yX4_mix wsX4_mix) := goodIn_app (goodIn_of _ (by decide +kernel)) ggL_law_X4_mix
set_option maxRecDepth 20000 in
theorem ggL_law_X5_mix : GoodIn wsL_law wsX5_mix := goodIn_r _ [390, 87, 78, 77, 344, 345, 346, 5, 347, 81, 110, 111, 112, 113, 114, 115, 236, 237, 238, 239, 391, 392, 393, 394, 240, 241, 242, 243, 244, 245, 246, 247, 578, 579, 580, 581, 582, 583, 584, 585, 586, 587, 588, 589, 590] (by decide +kernel) (by decide +kernel)
set_option maxRecDepth 20000 in
theorem gL_law_X5_mix : GoodIn wsL_law (wsV RL 93 RX5 yX5_mix wsX5_mix) := goodIn_app (goodIn_of _ (by decide +kernel)) ggL_law_X5_mix
set_option maxRecDepth 20000 in
theorem ggL_law_X4_share : GoodIn wsL_law wsX4_share := goodIn_r _ [398, 399, 331, 332, 333, 334, 2, 335, 29, 336, 92, 93, 94, 95, 96, 97, 136, 137, 138, 139, 25, 593, 594, 595, 570, 571, 572, 573, 574, 575, 576, 577] (by decide +kernel) (by decide +kernel)
set_option maxRecDepth 20000 in
theorem gL_law_X4_share : GoodIn wsL_law (wsV RL 94 RX4 yX4_share wsX4_share) := goodIn_app (goodIn_of _ (by decide +kernel)) ggL_law_X4_share
set_option maxRecDepth 20000 in
theorem ggL_law_X5_share : GoodIn wsL_law wsX5_share := goodIn_r _ [403, 77, 404, 344, 345, 346, 5, 347, 81, 110, 111, 112, 113, 114, 115, 182, 183, 184, 185, 87, 578, 579, 580, 581, 582, 583, 584, 585, 586, 587, 588, 589, 590] (by decide +kernel) (by decide +kernel)
set_option maxRecDepth 20000 in
theorem gL_law_X5_share : GoodIn wsL_law (wsV RL 97 RX5 yX5_share wsX5_share) := goodIn_app (goodIn_of _ (by decide +kernel)) ggL_law_X5_share
set_option maxRecDepth 20000 in
theorem ggL_law_X4_chance : GoodIn wsL_law wsX4_chance := goodIn_r _ [408, 399, 331, 386, 332, 333, 334, 2, 335, 29, 336, 92, 93, 94, 95, 96, 97, 136, 137, 138, 139, 25, 409, 410, 411, 412, 413, 414, 415, 416, 19, 417, 222, 223, 224, 593, 594, 595, 570, 571, 572, 573, 574, 575, 576, 577] (by decide +kernel) (by decide +kernel)
set_option maxRecDepth 20000 in
theorem gL_law_X4_chance : GoodIn wsL_law (wsV RL 98 RX4 yX4_chance wsX4_chance) := goodIn_app (goodIn_of _ (by decide +kernel)) ggL_law_X4_chance
set_option maxRecDepth 20000 in
theorem ggL_law_X5_chance : GoodIn wsL_law wsX5_chance := goodIn_r _ [421, 77, 404, 344, 345, 346, 5, 347, 81, 110, 111, 112, 113, 114, 115, 182, 183, 184, 185, 87, 422, 423, 424, 391, 392, 393, 394, 425, 426, 427, 245, 246, 247, 578, 579, 580, 581, 582, 583, 584, 585, 586, 587, 588, 589, 590] (by decide +kernel) (by decide +kernel)
set_option maxRecDepth 20000 in
theorem gL_law_X5_chance : GoodIn wsL_law (wsV RL 102 RX5 yX5_chance wsX5_chance) := goodIn_app (goodIn_of _ (by decide +kernel)) ggL_law_X5_chance
set_option maxRecDepth 20000 in
theorem ggL_law_X4_within : GoodIn wsL_law wsX4_within := goodIn_r _ [431, 399, 386, 332, 333, 334, 2, 335, 29, 336, 92, 93, 94, 95, 96, 97, 136, 137, 138, 139, 25, 409, 410, 411, 432, 433, 434, 33, 435, 56, 338, 339, 412, 413, 414, 415, 416, 19, 417, 222, 223, 224, 593, 594, 595, 570, 571, 572, 573, 574, 575, 576, 577] (by decide +kernel) (by decide +kernel)
set_option maxRecDepth 20000 in
theorem gL_law_X4_within : GoodIn wsL_law (wsV RL 103 RX4 yX4_within wsX4_within) := goodIn_app (goodIn_of _ (by decide +kernel)) ggL_law_X4_within
set_option maxRecDepth 20000 in
theorem ggL_law_X5_within : GoodIn wsL_law wsX5_within := goodIn_r _ [439, 404, 344, 345, 346, 5, 347, 81, 110, 111, 112, 113, 114, 115, 182, 183, 184, 185, 87, 422, 423, 424, 440, 441, 442, 443, 77, 391, 392, 393, 394, 425, 426, 427, 245, 246, 247, 578, 579, 580, 581, 582, 583, 584, 585, 586, 587, 588, 589, 590] (by decide +kernel) (by decide +kernel)
set_option maxRecDepth 20000 in
theorem gL_law_X5_within : GoodIn wsL_law (wsV RL 106 RX5 yX5_within wsX5_within) := goodIn_app (goodIn_of _ (by decide +kernel)) ggL_law_X5_within
set_option maxRecDepth 20000 in
theorem ggL_law_X4_out : GoodIn wsL_law wsX4_out := goodIn_r _ [447, 399, 386, 332, 333, 334, 2, 335, 29, 336, 92, 93, 94, 95, 96, 97, 136, 137, 138, 139, 25, 409, 410, 411, 432, 433, 434, 33, 435, 56, 338, 339, 412, 413, 414, 415, 416, 19, 417, 222, 223, 224, 593, 594, 595, 570, 571, 572, 573, 574, 575, 576, 577] (by decide +kernel) (by decide +kernel)
set_option maxRecDepth 20000 in
theorem gL_law_X4_out : GoodIn wsL_law (wsV RL 107 RX4 yX4_out wsX4_out) := goodIn_app (goodIn_of _ (by decide +kernel)) ggL_law_X4_out
set_option maxRecDepth 20000 in
theorem ggL_law_X5_out : GoodIn wsL_law wsX5_out := goodIn_r _ [451, 404, 344, 345, 346, 5, 347, 81, 110, 111, 112, 113, 114, 115, 182, 183, 184, 185, 87, 422, 423, 424, 440, 441, 442, 443, 77, 391, 392, 393, 394, 425, 426, 427, 245, 246, 247, 578, 579, 580, 581, 582, 583, 584, 585, 586, 587, 588, 589, 590] (by decide +kernel) (by decide +kernel)
set_option maxRecDepth 20000 in
theorem gL_law_X5_out : GoodIn wsL_law (wsV RL 110 RX5 yX5_out wsX5_out) := goodIn_app (goodIn_of _ (by decide +kernel)) ggL_law_X5_out
set_option maxRecDepth 20000 in
theorem ggL_law_X4_size : GoodIn wsL_law wsX4_size := goodIn_r _ [455, 399, 386, 332, 333, 334, 2, 335, 29, 336, 92, 93, 94, 95, 96, 97, 456, 457, 458, 459, 24, 409, 410, 411, 460, 461, 462, 33, 463, 56, 464, 145, 146, 147, 148, 149, 150, 412, 413, 414, 415, 416, 19, 417, 222, 223, 224, 593, 594, 595, 570, 571, 572, 573, 574, 575, 576, 577] (by decide +kernel) (by decide +kernel)
set_option maxRecDepth 20000 in
theorem gL_law_X4_size : GoodIn wsL_law (wsV RL 111 RX4 yX4_size wsX4_size) := goodIn_app (goodIn_of _ (by decide +kernel)) ggL_law_X4_size
set_option maxRecDepth 20000 in
theorem ggL_law_X5_size : GoodIn wsL_law wsX5_size := goodIn_r _ [468, 86, 404, 344, 345, 346, 5, 347, 81, 110, 111, 112, 113, 114, 115, 422, 423, 424, 469, 470, 471, 472, 87, 77, 190, 191, 192, 391, 392, 393, 394, 425, 426, 427, 245, 246, 247, 578, 579, 580, 581, 582, 583, 584, 585, 586, 587, 588, 589, 590] (by decide +kernel) (by decide +kernel)
set_option maxRecDepth 20000 in
theorem gL_law_X5_size : GoodIn wsL_law (wsV RL 114 RX5 yX5_size wsX5_size) := goodIn_app (goodIn_of _ (by decide +kernel)) ggL_law_X5_size
set_option maxRecDepth 20000 in
theorem ggL_law_X4_mean : GoodIn wsL_law wsX4_mean := goodIn_r _ [476, 399, 386, 332, 333, 334, 2, 335, 29, 336, 92, 93, 94, 95, 96, 97, 409, 410, 411, 477, 478, 479, 33, 480, 56, 464, 145, 146, 147, 148, 149, 150, 412, 413, 414, 415, 416, 19, 417, 222, 223, 224, 593, 594, 595, 570, 571, 572, 573, 574, 575, 576, 577] (by decide +kernel) (by decide +kernel)
set_option maxRecDepth 20000 in
theorem gL_law_X4_mean : GoodIn wsL_law (wsV RL 115 RX4 yX4_mean wsX4_mean) := goodIn_app (goodIn_of _ (by decide +kernel)) ggL_law_X4_mean
set_option maxRecDepth 20000 in
theorem ggL_law_X5_mean : GoodIn wsL_law wsX5_mean := goodIn_r _ [484, 404, 86, 344, 345, 346, 5, 347, 81, 110, 111, 112, 113, 114, 115, 422, 423, 424, 469, 470, 471, 472, 87, 77, 190, 191, 192, 391, 392, 393, 394, 425, 426, 427, 245, 246, 247, 578, 579, 580, 581, 582, 583, 584, 585, 586, 587, 588, 589, 590] (by decide +kernel) (by decide +kernel)
set_option maxRecDepth 20000 in
theorem gL_law_X5_mean : GoodIn wsL_law (wsV RL 118 RX5 yX5_mean wsX5_mean) := goodIn_app (goodIn_of _ (by decide +kernel)) ggL_law_X5_mean
set_option maxRecDepth 20000 in
theorem ggL_law_X4_spread : GoodIn wsL_law wsX4_spread := goodIn_r _ [488, 399, 386, 332, 333, 334, 2, 335, 29, 336, 92, 93, 94, 95, 96, 97, 409, 410, 411, 477, 478, 479, 33, 480, 56, 464, 145, 146, 147, 148, 149, 150, 489, 490, 491, 492, 412, 413, 414, 415, 416, 19, 417, 222, 223, 224, 593, 594, 595, 570, 571, 572, 573, 574, 575, 576, 577] (by decide +kernel) (by decide +kernel)
set_option maxRecDepth 20000 in
theorem gL_law_X4_spread : GoodIn wsL_law (wsV RL 119 RX4 yX4_spread wsX4_spread) := goodIn_app (goodIn_of _ (by decide +kernel)) ggL_law_X4_spread
set_option maxRecDepth 20000 in
theorem ggL_law_X5_spread : GoodIn wsL_law wsX5_spread := goodIn_r _ [496, 404, 86, 344, 345, 346, 5, 347, 81, 110, 111, 112, 113, 114, 115, 422, 423, 424, 469, 470, 471, 472, 87, 77, 190, 191, 192, 391, 392, 393, 394, 425, 426, 427, 245, 246, 247, 578, 579, 580, 581, 582, 583, 584, 585, 586, 587, 588, 589, 590] (by decide +kernel) (by decide +kernel)
set_option maxRecDepth 20000 in
theorem gL_law_X5_spread : GoodIn wsL_law (wsV RL 122 RX5 yX5_spread wsX5_spread) := goodIn_app (goodIn_of _ (by decide +kernel)) ggL_law_X5_spread
set_option maxRecDepth 20000 in
theorem ggL_law_X4_both : GoodIn wsL_law wsX4_both := goodIn_r _ [500, 386, 332, 333, 334, 2, 335, 29, 336, 92, 93, 94, 95, 96, 97, 98, 99, 100, 101, 24, 409, 410, 411, 501, 502, 503, 33, 504, 229, 505, 433, 434, 435, 56, 338, 339, 412, 413, 414, 415, 416, 19, 417, 399, 222, 223, 224, 593, 594, 595, 570, 571, 572, 573, 574, 575, 576, 577] (by decide +kernel) (by decide +kernel)
set_option maxRecDepth 20000 in
theorem gL_law_X4_both : GoodIn wsL_law (wsV RL 123 RX4 yX4_both wsX4_both) := goodIn_app (goodIn_of _ (by decide +kernel)) ggL_law_X4_both
set_option maxRecDepth 20000 in
theorem ggL_law_X5_both : GoodIn wsL_law wsX5_both := goodIn_r _ [509, 344, 345, 346, 5, 347, 81, 110, 111, 112, 113, 114, 115, 116, 117, 118, 119, 86, 422, 423, 424, 391, 392, 393, 394, 87, 77, 510, 511, 512, 513, 440, 441, 442, 443, 425, 426, 427, 245, 246, 247, 578, 579, 580, 581, 582, 583, 584, 585, 586, 587, 588, 589, 590] (by decide +kernel) (by decide +kernel)
set_option maxRecDepth 20000 in
theorem gL_law_X5_both : GoodIn wsL_law (wsV RL 127 RX5 yX5_both wsX5_both) := goodIn_app (goodIn_of _ (by decide +kernel)) ggL_law_X5_both
set_option maxRecDepth 20000 in
theorem ggL_law_X4_shuns : GoodIn wsL_law wsX4_shuns := goodIn_r _ [517, 24, 332, 333, 334, 2, 335, 29, 336, 92, 93, 94, 95, 96, 97, 501, 502, 503, 33, 504, 229, 505, 433, 434, 435, 56, 338, 339, 570, 571, 572, 573, 574, 575, 576, 577, 593, 594, 595] (by decide +kernel) (by decide +kernel)
set_option maxRecDepth 20000 in
theorem gL_law_X4_shuns : GoodIn wsL_law (wsV RL 128 RX4 yX4_shuns wsX4_shuns) := goodIn_app (goodIn_of _ (by decide +kernel)) ggL_law_X4_shuns
set_option maxRecDepth 20000 in
theorem ggL_law_X5_shuns : GoodIn wsL_law wsX5_shuns := goodIn_r _ [521, 86, 344, 345, 346, 5, 347, 81, 110, 111, 112, 113, 114, 115, 510, 511, 512, 513, 440, 441, 442, 443, 87, 77, 391, 392, 393, 394, 578, 579, 580, 581, 582, 583, 584, 585, 586, 587, 588, 589, 590] (by decide +kernel) (by decide +kernel)
set_option maxRecDepth 20000 in
theorem gL_law_X5_shuns : GoodIn wsL_law (wsV RL 131 RX5 yX5_shuns wsX5_shuns) := goodIn_app (goodIn_of _ (by decide +kernel)) ggL_law_X5_shuns
set_option maxRecDepth 20000 in
theorem ggL_law_X4_rises : GoodIn wsL_law wsX4_rises := goodIn_r _ [525, 24, 332, 333, 334, 2, 335, 29, 336, 92, 93, 94, 95, 96, 97, 460, 461, 462, 33, 463, 56, 464, 145, 146, 147, 148, 149, 150, 570, 571, 572, 573, 574, 575, 576, 577, 593, 594, 595] (by decide +kernel) (by decide +kernel)
set_option maxRecDepth 20000 in
theorem gL_law_X4_rises : GoodIn wsL_law (wsV RL 132 RX4 yX4_rises wsX4_rises) := goodIn_app (goodIn_of _ (by decide +kernel)) ggL_law_X4_rises
set_option maxRecDepth 20000 in
theorem ggL_law_X5_rises : GoodIn wsL_law wsX5_rises := goodIn_r _ [529, 86, 344, 345, 346, 5, 347, 81, 110, 111, 112, 113, 114, 115, 469, 470, 471, 472, 87, 77, 190, 191, 192, 578, 579, 580, 581, 582, 583, 584, 585, 586, 587, 588, 589, 590] (by decide +kernel) (by decide +kernel)
set_option maxRecDepth 20000 in
theorem gL_law_X5_rises : GoodIn wsL_law (wsV RL 135 RX5 yX5_rises wsX5_rises) := goodIn_app (goodIn_of _ (by decide +kernel)) ggL_law_X5_rises
set_option maxRecDepth 20000 in
theorem ggL_law_X4_greatest : GoodIn wsL_law wsX4_greatest := goodIn_r _ [533, 25, 331, 332, 333, 334, 2, 335, 29, 336, 92, 93, 94, 95, 96, 97, 570, 571, 572, 573, 574, 575, 576, 577, 593, 594, 595] (by decide +kernel) (by decide +kernel)
set_option maxRecDepth 20000 in
theorem gL_law_X4_greatest : GoodIn wsL_law (wsV RL 136 RX4 yX4_greatest wsX4_greatest) := goodIn_app (goodIn_of _ (by decide +kernel)) ggL_law_X4_greatest
set_option maxRecDepth 20000 in
theorem ggL_law_X5_greatest : GoodIn wsL_law wsX5_greatest := goodIn_r _ [537, 87, 77, 344, 345, 346, 5, 347, 81, 110, 111, 112, 113, 114, 115, 578, 579, 580, 581, 582, 583, 584, 585, 586, 587, 588, 589, 590] (by decide +kernel) (by decide +kernel)
set_option maxRecDepth 20000 in
theorem gL_law_X5_greatest : GoodIn wsL_law (wsV RL 139 RX5 yX5_greatest wsX5_greatest) := goodIn_app (goodIn_of _ (by decide +kernel)) ggL_law_X5_greatest
set_option maxRecDepth 20000 in
theorem ggL_law_X4_greedy : GoodIn wsL_law wsX4_greedy := goodIn_r _ [541, 332, 333, 334, 2, 335, 29, 336, 92, 93, 94, 95, 96, 97, 456, 457, 458, 459, 24, 542, 543, 544, 545, 331, 570, 571, 572, 573, 574, 575, 576, 577, 593, 594, 595] (by decide +kernel) (by decide +kernel)
set_option maxRecDepth 20000 in
theorem gL_law_X4_greedy : GoodIn wsL_law (wsV RL 140 RX4 yX4_greedy wsX4_greedy) := goodIn_app (goodIn_of _ (by decide +kernel)) ggL_law_X4_greedy
set_option maxRecDepth 20000 in
theorem ggL_law_X5_greedy : GoodIn wsL_law wsX5_greedy := goodIn_r _ [549, 86, 77, 344, 345, 346, 5, 347, 81, 110, 111, 112, 113, 114, 115, 578, 579, 580, 581, 582, 583, 584, 585, 586, 587, 588, 589, 590] (by decide +kernel) (by decide +kernel)
set_option maxRecDepth 20000 in
theorem gL_law_X5_greedy : GoodIn wsL_law (wsV RL 144 RX5 yX5_greedy wsX5_greedy) := goodIn_app (goodIn_of _ (by decide +kernel)) ggL_law_X5_greedy
set_option maxRecDepth 20000 in
theorem ggL_law_X4_same : GoodIn wsL_law wsX4_same := goodIn_r _ [553, 25, 331, 332, 333, 334, 2, 335, 29, 336, 92, 93, 94, 95, 96, 97, 570, 571, 572, 573, 574, 575, 576, 577, 593, 594, 595] (by decide +kernel) (by decide +kernel)
set_option maxRecDepth 20000 in
theorem gL_law_X4_same : GoodIn wsL_law (wsV RL 145 RX4 yX4_same wsX4_same) := goodIn_app (goodIn_of _ (by decide +kernel)) ggL_law_X4_same
set_option maxRecDepth 20000 in
theorem ggL_law_X5_same : GoodIn wsL_law wsX5_same := goodIn_r _ [557, 87, 77, 344, 345, 346, 5, 347, 81, 110, 111, 112, 113, 114, 115, 578, 579, 580, 581, 582, 583, 584, 585, 586, 587, 588, 589, 590] (by decide +kernel) (by decide +kernel)
set_option maxRecDepth 20000 in
theorem gL_law_X5_same : GoodIn wsL_law (wsV RL 148 RX5 yX5_same wsX5_same) := goodIn_app (goodIn_of _ (by decide +kernel)) ggL_law_X5_same
set_option maxRecDepth 20000 in
theorem ggL_law_X4_draw : GoodIn wsL_law wsX4_draw := goodIn_r _ [561, 24, 562, 563, 332, 333, 334, 2, 335, 29, 336, 92, 93, 94, 95, 96, 97, 432, 433, 434, 33, 435, 56, 338, 339, 570, 571, 572, 573, 574, 575, 576, 577, 593, 594, 595] (by decide +kernel) (by decide +kernel)
set_option maxRecDepth 20000 in
theorem gL_law_X4_draw : GoodIn wsL_law (wsV RL 151 RX4 yX4_draw wsX4_draw) := goodIn_app (goodIn_of _ (by decide +kernel)) ggL_law_X4_draw
set_option maxRecDepth 20000 in
theorem ggL_law_X5_draw : GoodIn wsL_law wsX5_draw := goodIn_r _ [567, 86, 568, 569, 344, 345, 346, 5, 347, 81, 110, 111, 112, 113, 114, 115, 440, 441, 442, 443, 87, 77, 578, 579, 580, 581, 582, 583, 584, 585, 586, 587, 588, 589, 590] (by decide +kernel) (by decide +kernel)
set_option maxRecDepth 20000 in
theorem gL_law_X5_draw : GoodIn wsL_law (wsV RL 155 RX5 yX5_draw wsX5_draw) := goodIn_app (goodIn_of _ (by decide +kernel)) ggL_law_X5_draw
theorem dL_law_0 : decode cL_law 0 = .ok (.new 7, 3) := by decide +kernel
theorem dL_law_3 : decode cL_law 3 = .ok (.dup, 1) := by decide +kernel
theorem dL_law_4 : decode cL_law 4 = .ok (.aload_n 0, 1) := by decide +kernel
theorem dL_law_5 : decode cL_law 5 = .ok (.iconst 0, 1) := by decide +kernel
theorem dL_law_6 : decode cL_law 6 = .ok (.invokestatic 9, 3) := by decide +kernel
theorem dL_law_9 : decode cL_law 9 = .ok (.invokespecial 15, 3) := by decide +kernel
theorem dL_law_12 : decode cL_law 12 = .ok (.astore_n 1, 1) := by decide +kernel
theorem dL_law_13 : decode cL_law 13 = .ok (.new 18, 3) := by decide +kernel
theorem dL_law_16 : decode cL_law 16 = .ok (.dup, 1) := by decide +kernel
theorem dL_law_17 : decode cL_law 17 = .ok (.aload_n 0, 1) := by decide +kernel
theorem dL_law_18 : decode cL_law 18 = .ok (.iconst 0, 1) := by decide +kernel
theorem dL_law_19 : decode cL_law 19 = .ok (.invokestatic 9, 3) := by decide +kernel
theorem dL_law_22 : decode cL_law 22 = .ok (.invokespecial 20, 3) := by decide +kernel
theorem dL_law_25 : decode cL_law 25 = .ok (.astore_n 2, 1) := by decide +kernel
theorem dL_law_26 : decode cL_law 26 = .ok (.iconst 1, 1) := by decide +kernel
theorem dL_law_27 : decode cL_law 27 = .ok (.istore_n 3, 1) := by decide +kernel
theorem dL_law_28 : decode cL_law 28 = .ok (.iload_n 3, 1) := by decide +kernel
theorem dL_law_29 : decode cL_law 29 = .ok (.aload_n 0, 1) := by decide +kernel
theorem dL_law_30 : decode cL_law 30 = .ok (.arraylength, 1) := by decide +kernel
theorem dL_law_31 : decode cL_law 31 = .ok (.bipush 6, 2) := by decide +kernel
theorem dL_law_33 : decode cL_law 33 = .ok (.isub, 1) := by decide +kernel
theorem dL_law_34 : decode cL_law 34 = .ok (.if_icmp .gt 1299, 3) := by decide +kernel
theorem dL_law_37 : decode cL_law 37 = .ok (.aload_n 0, 1) := by decide +kernel
theorem dL_law_38 : decode cL_law 38 = .ok (.iload_n 3, 1) := by decide +kernel
theorem dL_law_39 : decode cL_law 39 = .ok (.iaload, 1) := by decide +kernel
theorem dL_law_40 : decode cL_law 40 = .ok (.bipush 31, 2) := by decide +kernel
theorem dL_law_42 : decode cL_law 42 = .ok (.iand, 1) := by decide +kernel
theorem dL_law_43 : decode cL_law 43 = .ok (.tableswitch 1284 0 29 #[133, 186, 229, 263, 286, 310, 343, 396, 420, 453, 486, 509, 562, 605, 648, 691, 754, 788, 832, 876, 920, 964, 998, 1032, 1086, 1109, 1132, 1155, 1188, 1221], 133) := by decide +kernel
theorem dL_law_176 : decode cL_law 176 = .ok (.aload_n 1, 1) := by decide +kernel
theorem dL_law_177 : decode cL_law 177 = .ok (.aload_n 0, 1) := by decide +kernel
theorem dL_law_178 : decode cL_law 178 = .ok (.iload_n 3, 1) := by decide +kernel
theorem dL_law_179 : decode cL_law 179 = .ok (.iconst 1, 1) := by decide +kernel
theorem dL_law_180 : decode cL_law 180 = .ok (.iadd, 1) := by decide +kernel
theorem dL_law_181 : decode cL_law 181 = .ok (.iaload, 1) := by decide +kernel
theorem dL_law_182 : decode cL_law 182 = .ok (.aload_n 0, 1) := by decide +kernel
theorem dL_law_183 : decode cL_law 183 = .ok (.iload_n 3, 1) := by decide +kernel
theorem dL_law_184 : decode cL_law 184 = .ok (.iconst 2, 1) := by decide +kernel
theorem dL_law_185 : decode cL_law 185 = .ok (.iadd, 1) := by decide +kernel
theorem dL_law_186 : decode cL_law 186 = .ok (.iaload, 1) := by decide +kernel
theorem dL_law_187 : decode cL_law 187 = .ok (.aload_n 0, 1) := by decide +kernel
theorem dL_law_188 : decode cL_law 188 = .ok (.iload_n 3, 1) := by decide +kernel
theorem dL_law_189 : decode cL_law 189 = .ok (.iconst 3, 1) := by decide +kernel
theorem dL_law_190 : decode cL_law 190 = .ok (.iadd, 1) := by decide +kernel
theorem dL_law_191 : decode cL_law 191 = .ok (.iaload, 1) := by decide +kernel
theorem dL_law_192 : decode cL_law 192 = .ok (.aload_n 0, 1) := by decide +kernel
theorem dL_law_193 : decode cL_law 193 = .ok (.iload_n 3, 1) := by decide +kernel
theorem dL_law_194 : decode cL_law 194 = .ok (.iconst 4, 1) := by decide +kernel
theorem dL_law_195 : decode cL_law 195 = .ok (.iadd, 1) := by decide +kernel
theorem dL_law_196 : decode cL_law 196 = .ok (.iaload, 1) := by decide +kernel
theorem dL_law_197 : decode cL_law 197 = .ok (.invokevirtual 21, 3) := by decide +kernel
theorem dL_law_200 : decode cL_law 200 = .ok (.aload_n 2, 1) := by decide +kernel
theorem dL_law_201 : decode cL_law 201 = .ok (.aload_n 0, 1) := by decide +kernel
theorem dL_law_202 : decode cL_law 202 = .ok (.iload_n 3, 1) := by decide +kernel
theorem dL_law_203 : decode cL_law 203 = .ok (.iconst 1, 1) := by decide +kernel
theorem dL_law_204 : decode cL_law 204 = .ok (.iadd, 1) := by decide +kernel
theorem dL_law_205 : decode cL_law 205 = .ok (.iaload, 1) := by decide +kernel
theorem dL_law_206 : decode cL_law 206 = .ok (.aload_n 0, 1) := by decide +kernel
theorem dL_law_207 : decode cL_law 207 = .ok (.iload_n 3, 1) := by decide +kernel
theorem dL_law_208 : decode cL_law 208 = .ok (.iconst 2, 1) := by decide +kernel
theorem dL_law_209 : decode cL_law 209 = .ok (.iadd, 1) := by decide +kernel
theorem dL_law_210 : decode cL_law 210 = .ok (.iaload, 1) := by decide +kernel
theorem dL_law_211 : decode cL_law 211 = .ok (.aload_n 0, 1) := by decide +kernel
theorem dL_law_212 : decode cL_law 212 = .ok (.iload_n 3, 1) := by decide +kernel
theorem dL_law_213 : decode cL_law 213 = .ok (.iconst 3, 1) := by decide +kernel
theorem dL_law_214 : decode cL_law 214 = .ok (.iadd, 1) := by decide +kernel
theorem dL_law_215 : decode cL_law 215 = .ok (.iaload, 1) := by decide +kernel
theorem dL_law_216 : decode cL_law 216 = .ok (.aload_n 0, 1) := by decide +kernel
theorem dL_law_217 : decode cL_law 217 = .ok (.iload_n 3, 1) := by decide +kernel
theorem dL_law_218 : decode cL_law 218 = .ok (.iconst 4, 1) := by decide +kernel
theorem dL_law_219 : decode cL_law 219 = .ok (.iadd, 1) := by decide +kernel
theorem dL_law_220 : decode cL_law 220 = .ok (.iaload, 1) := by decide +kernel
theorem dL_law_221 : decode cL_law 221 = .ok (.invokevirtual 25, 3) := by decide +kernel
theorem dL_law_224 : decode cL_law 224 = .ok (.if_icmp .eq 1103, 3) := by decide +kernel
theorem dL_law_227 : decode cL_law 227 = .ok (.iconst 0, 1) := by decide +kernel
theorem dL_law_228 : decode cL_law 228 = .ok (.ireturn, 1) := by decide +kernel
theorem dL_law_229 : decode cL_law 229 = .ok (.aload_n 1, 1) := by decide +kernel
theorem dL_law_230 : decode cL_law 230 = .ok (.aload_n 0, 1) := by decide +kernel
theorem dL_law_231 : decode cL_law 231 = .ok (.iload_n 3, 1) := by decide +kernel
theorem dL_law_232 : decode cL_law 232 = .ok (.iconst 1, 1) := by decide +kernel
theorem dL_law_233 : decode cL_law 233 = .ok (.iadd, 1) := by decide +kernel
theorem dL_law_234 : decode cL_law 234 = .ok (.iaload, 1) := by decide +kernel
theorem dL_law_235 : decode cL_law 235 = .ok (.aload_n 0, 1) := by decide +kernel
theorem dL_law_236 : decode cL_law 236 = .ok (.iload_n 3, 1) := by decide +kernel
theorem dL_law_237 : decode cL_law 237 = .ok (.iconst 2, 1) := by decide +kernel
theorem dL_law_238 : decode cL_law 238 = .ok (.iadd, 1) := by decide +kernel
theorem dL_law_239 : decode cL_law 239 = .ok (.iaload, 1) := by decide +kernel
theorem dL_law_240 : decode cL_law 240 = .ok (.aload_n 0, 1) := by decide +kernel
theorem dL_law_241 : decode cL_law 241 = .ok (.iload_n 3, 1) := by decide +kernel
theorem dL_law_242 : decode cL_law 242 = .ok (.iconst 3, 1) := by decide +kernel
theorem dL_law_243 : decode cL_law 243 = .ok (.iadd, 1) := by decide +kernel
theorem dL_law_244 : decode cL_law 244 = .ok (.iaload, 1) := by decide +kernel
theorem dL_law_245 : decode cL_law 245 = .ok (.invokevirtual 26, 3) := by decide +kernel
theorem dL_law_248 : decode cL_law 248 = .ok (.aload_n 2, 1) := by decide +kernel
theorem dL_law_249 : decode cL_law 249 = .ok (.aload_n 0, 1) := by decide +kernel
theorem dL_law_250 : decode cL_law 250 = .ok (.iload_n 3, 1) := by decide +kernel
theorem dL_law_251 : decode cL_law 251 = .ok (.iconst 1, 1) := by decide +kernel
theorem dL_law_252 : decode cL_law 252 = .ok (.iadd, 1) := by decide +kernel
theorem dL_law_253 : decode cL_law 253 = .ok (.iaload, 1) := by decide +kernel
theorem dL_law_254 : decode cL_law 254 = .ok (.aload_n 0, 1) := by decide +kernel
theorem dL_law_255 : decode cL_law 255 = .ok (.iload_n 3, 1) := by decide +kernel
theorem dL_law_256 : decode cL_law 256 = .ok (.iconst 2, 1) := by decide +kernel
theorem dL_law_257 : decode cL_law 257 = .ok (.iadd, 1) := by decide +kernel
theorem dL_law_258 : decode cL_law 258 = .ok (.iaload, 1) := by decide +kernel
theorem dL_law_259 : decode cL_law 259 = .ok (.aload_n 0, 1) := by decide +kernel
theorem dL_law_260 : decode cL_law 260 = .ok (.iload_n 3, 1) := by decide +kernel
theorem dL_law_261 : decode cL_law 261 = .ok (.iconst 3, 1) := by decide +kernel
theorem dL_law_262 : decode cL_law 262 = .ok (.iadd, 1) := by decide +kernel
theorem dL_law_263 : decode cL_law 263 = .ok (.iaload, 1) := by decide +kernel
theorem dL_law_264 : decode cL_law 264 = .ok (.invokevirtual 30, 3) := by decide +kernel
theorem dL_law_267 : decode cL_law 267 = .ok (.if_icmp .eq 1060, 3) := by decide +kernel
theorem dL_law_270 : decode cL_law 270 = .ok (.iconst 0, 1) := by decide +kernel
theorem dL_law_271 : decode cL_law 271 = .ok (.ireturn, 1) := by decide +kernel
theorem dL_law_272 : decode cL_law 272 = .ok (.aload_n 1, 1) := by decide +kernel
theorem dL_law_273 : decode cL_law 273 = .ok (.aload_n 0, 1) := by decide +kernel
theorem dL_law_274 : decode cL_law 274 = .ok (.iload_n 3, 1) := by decide +kernel
theorem dL_law_275 : decode cL_law 275 = .ok (.iconst 1, 1) := by decide +kernel
theorem dL_law_276 : decode cL_law 276 = .ok (.iadd, 1) := by decide +kernel
theorem dL_law_277 : decode cL_law 277 = .ok (.iaload, 1) := by decide +kernel
theorem dL_law_278 : decode cL_law 278 = .ok (.aload_n 0, 1) := by decide +kernel
theorem dL_law_279 : decode cL_law 279 = .ok (.iload_n 3, 1) := by decide +kernel
theorem dL_law_280 : decode cL_law 280 = .ok (.iconst 2, 1) := by decide +kernel
theorem dL_law_281 : decode cL_law 281 = .ok (.iadd, 1) := by decide +kernel
theorem dL_law_282 : decode cL_law 282 = .ok (.iaload, 1) := by decide +kernel
theorem dL_law_283 : decode cL_law 283 = .ok (.invokevirtual 31, 3) := by decide +kernel
theorem dL_law_286 : decode cL_law 286 = .ok (.aload_n 2, 1) := by decide +kernel
theorem dL_law_287 : decode cL_law 287 = .ok (.aload_n 0, 1) := by decide +kernel
theorem dL_law_288 : decode cL_law 288 = .ok (.iload_n 3, 1) := by decide +kernel
theorem dL_law_289 : decode cL_law 289 = .ok (.iconst 1, 1) := by decide +kernel
theorem dL_law_290 : decode cL_law 290 = .ok (.iadd, 1) := by decide +kernel
theorem dL_law_291 : decode cL_law 291 = .ok (.iaload, 1) := by decide +kernel
theorem dL_law_292 : decode cL_law 292 = .ok (.aload_n 0, 1) := by decide +kernel
theorem dL_law_293 : decode cL_law 293 = .ok (.iload_n 3, 1) := by decide +kernel
theorem dL_law_294 : decode cL_law 294 = .ok (.iconst 2, 1) := by decide +kernel
theorem dL_law_295 : decode cL_law 295 = .ok (.iadd, 1) := by decide +kernel
theorem dL_law_296 : decode cL_law 296 = .ok (.iaload, 1) := by decide +kernel
theorem dL_law_297 : decode cL_law 297 = .ok (.invokevirtual 35, 3) := by decide +kernel
theorem dL_law_300 : decode cL_law 300 = .ok (.lcmp, 1) := by decide +kernel
theorem dL_law_301 : decode cL_law 301 = .ok (.ifCond .eq 1026, 3) := by decide +kernel
theorem dL_law_304 : decode cL_law 304 = .ok (.iconst 0, 1) := by decide +kernel
theorem dL_law_305 : decode cL_law 305 = .ok (.ireturn, 1) := by decide +kernel
theorem dL_law_306 : decode cL_law 306 = .ok (.aload_n 1, 1) := by decide +kernel
theorem dL_law_307 : decode cL_law 307 = .ok (.aload_n 0, 1) := by decide +kernel
theorem dL_law_308 : decode cL_law 308 = .ok (.iload_n 3, 1) := by decide +kernel
theorem dL_law_309 : decode cL_law 309 = .ok (.iconst 1, 1) := by decide +kernel
theorem dL_law_310 : decode cL_law 310 = .ok (.iadd, 1) := by decide +kernel
theorem dL_law_311 : decode cL_law 311 = .ok (.iaload, 1) := by decide +kernel
theorem dL_law_312 : decode cL_law 312 = .ok (.invokevirtual 36, 3) := by decide +kernel
theorem dL_law_315 : decode cL_law 315 = .ok (.aload_n 2, 1) := by decide +kernel
theorem dL_law_316 : decode cL_law 316 = .ok (.aload_n 0, 1) := by decide +kernel
theorem dL_law_317 : decode cL_law 317 = .ok (.iload_n 3, 1) := by decide +kernel
theorem dL_law_318 : decode cL_law 318 = .ok (.iconst 1, 1) := by decide +kernel
theorem dL_law_319 : decode cL_law 319 = .ok (.iadd, 1) := by decide +kernel
theorem dL_law_320 : decode cL_law 320 = .ok (.iaload, 1) := by decide +kernel
theorem dL_law_321 : decode cL_law 321 = .ok (.invokevirtual 40, 3) := by decide +kernel
theorem dL_law_324 : decode cL_law 324 = .ok (.if_icmp .eq 1003, 3) := by decide +kernel
theorem dL_law_327 : decode cL_law 327 = .ok (.iconst 0, 1) := by decide +kernel
theorem dL_law_328 : decode cL_law 328 = .ok (.ireturn, 1) := by decide +kernel
theorem dL_law_329 : decode cL_law 329 = .ok (.aload_n 1, 1) := by decide +kernel
theorem dL_law_330 : decode cL_law 330 = .ok (.aload_n 0, 1) := by decide +kernel
theorem dL_law_331 : decode cL_law 331 = .ok (.iload_n 3, 1) := by decide +kernel
theorem dL_law_332 : decode cL_law 332 = .ok (.iconst 1, 1) := by decide +kernel
theorem dL_law_333 : decode cL_law 333 = .ok (.iadd, 1) := by decide +kernel
theorem dL_law_334 : decode cL_law 334 = .ok (.iaload, 1) := by decide +kernel
theorem dL_law_335 : decode cL_law 335 = .ok (.invokevirtual 41, 3) := by decide +kernel
theorem dL_law_338 : decode cL_law 338 = .ok (.aload_n 2, 1) := by decide +kernel
theorem dL_law_339 : decode cL_law 339 = .ok (.aload_n 0, 1) := by decide +kernel
theorem dL_law_340 : decode cL_law 340 = .ok (.iload_n 3, 1) := by decide +kernel
theorem dL_law_341 : decode cL_law 341 = .ok (.iconst 1, 1) := by decide +kernel
theorem dL_law_342 : decode cL_law 342 = .ok (.iadd, 1) := by decide +kernel
theorem dL_law_343 : decode cL_law 343 = .ok (.iaload, 1) := by decide +kernel
theorem dL_law_344 : decode cL_law 344 = .ok (.invokevirtual 45, 3) := by decide +kernel
theorem dL_law_347 : decode cL_law 347 = .ok (.lcmp, 1) := by decide +kernel
theorem dL_law_348 : decode cL_law 348 = .ok (.ifCond .eq 979, 3) := by decide +kernel
theorem dL_law_351 : decode cL_law 351 = .ok (.iconst 0, 1) := by decide +kernel
theorem dL_law_352 : decode cL_law 352 = .ok (.ireturn, 1) := by decide +kernel
theorem dL_law_353 : decode cL_law 353 = .ok (.aload_n 1, 1) := by decide +kernel
theorem dL_law_354 : decode cL_law 354 = .ok (.aload_n 0, 1) := by decide +kernel
theorem dL_law_355 : decode cL_law 355 = .ok (.iload_n 3, 1) := by decide +kernel
theorem dL_law_356 : decode cL_law 356 = .ok (.iconst 1, 1) := by decide +kernel
theorem dL_law_357 : decode cL_law 357 = .ok (.iadd, 1) := by decide +kernel
theorem dL_law_358 : decode cL_law 358 = .ok (.iaload, 1) := by decide +kernel
theorem dL_law_359 : decode cL_law 359 = .ok (.aload_n 0, 1) := by decide +kernel
theorem dL_law_360 : decode cL_law 360 = .ok (.iload_n 3, 1) := by decide +kernel
theorem dL_law_361 : decode cL_law 361 = .ok (.iconst 2, 1) := by decide +kernel
theorem dL_law_362 : decode cL_law 362 = .ok (.iadd, 1) := by decide +kernel
theorem dL_law_363 : decode cL_law 363 = .ok (.iaload, 1) := by decide +kernel
theorem dL_law_364 : decode cL_law 364 = .ok (.invokevirtual 46, 3) := by decide +kernel
theorem dL_law_367 : decode cL_law 367 = .ok (.aload_n 2, 1) := by decide +kernel
theorem dL_law_368 : decode cL_law 368 = .ok (.aload_n 0, 1) := by decide +kernel
theorem dL_law_369 : decode cL_law 369 = .ok (.iload_n 3, 1) := by decide +kernel
theorem dL_law_370 : decode cL_law 370 = .ok (.iconst 1, 1) := by decide +kernel
theorem dL_law_371 : decode cL_law 371 = .ok (.iadd, 1) := by decide +kernel
theorem dL_law_372 : decode cL_law 372 = .ok (.iaload, 1) := by decide +kernel
theorem dL_law_373 : decode cL_law 373 = .ok (.aload_n 0, 1) := by decide +kernel
theorem dL_law_374 : decode cL_law 374 = .ok (.iload_n 3, 1) := by decide +kernel
theorem dL_law_375 : decode cL_law 375 = .ok (.iconst 2, 1) := by decide +kernel
theorem dL_law_376 : decode cL_law 376 = .ok (.iadd, 1) := by decide +kernel
theorem dL_law_377 : decode cL_law 377 = .ok (.iaload, 1) := by decide +kernel
theorem dL_law_378 : decode cL_law 378 = .ok (.invokevirtual 50, 3) := by decide +kernel
theorem dL_law_381 : decode cL_law 381 = .ok (.if_icmp .eq 946, 3) := by decide +kernel
theorem dL_law_384 : decode cL_law 384 = .ok (.iconst 0, 1) := by decide +kernel
theorem dL_law_385 : decode cL_law 385 = .ok (.ireturn, 1) := by decide +kernel
theorem dL_law_386 : decode cL_law 386 = .ok (.aload_n 1, 1) := by decide +kernel
theorem dL_law_387 : decode cL_law 387 = .ok (.aload_n 0, 1) := by decide +kernel
theorem dL_law_388 : decode cL_law 388 = .ok (.iload_n 3, 1) := by decide +kernel
theorem dL_law_389 : decode cL_law 389 = .ok (.iconst 1, 1) := by decide +kernel
theorem dL_law_390 : decode cL_law 390 = .ok (.iadd, 1) := by decide +kernel
theorem dL_law_391 : decode cL_law 391 = .ok (.iaload, 1) := by decide +kernel
theorem dL_law_392 : decode cL_law 392 = .ok (.aload_n 0, 1) := by decide +kernel
theorem dL_law_393 : decode cL_law 393 = .ok (.iload_n 3, 1) := by decide +kernel
theorem dL_law_394 : decode cL_law 394 = .ok (.iconst 2, 1) := by decide +kernel
theorem dL_law_395 : decode cL_law 395 = .ok (.iadd, 1) := by decide +kernel
theorem dL_law_396 : decode cL_law 396 = .ok (.iaload, 1) := by decide +kernel
theorem dL_law_397 : decode cL_law 397 = .ok (.aload_n 0, 1) := by decide +kernel
theorem dL_law_398 : decode cL_law 398 = .ok (.iload_n 3, 1) := by decide +kernel
theorem dL_law_399 : decode cL_law 399 = .ok (.iconst 3, 1) := by decide +kernel
theorem dL_law_400 : decode cL_law 400 = .ok (.iadd, 1) := by decide +kernel
theorem dL_law_401 : decode cL_law 401 = .ok (.iaload, 1) := by decide +kernel
theorem dL_law_402 : decode cL_law 402 = .ok (.aload_n 0, 1) := by decide +kernel
theorem dL_law_403 : decode cL_law 403 = .ok (.iload_n 3, 1) := by decide +kernel
theorem dL_law_404 : decode cL_law 404 = .ok (.iconst 4, 1) := by decide +kernel
theorem dL_law_405 : decode cL_law 405 = .ok (.iadd, 1) := by decide +kernel
theorem dL_law_406 : decode cL_law 406 = .ok (.iaload, 1) := by decide +kernel
theorem dL_law_407 : decode cL_law 407 = .ok (.invokevirtual 51, 3) := by decide +kernel
theorem dL_law_410 : decode cL_law 410 = .ok (.aload_n 2, 1) := by decide +kernel
theorem dL_law_411 : decode cL_law 411 = .ok (.aload_n 0, 1) := by decide +kernel
theorem dL_law_412 : decode cL_law 412 = .ok (.iload_n 3, 1) := by decide +kernel
theorem dL_law_413 : decode cL_law 413 = .ok (.iconst 1, 1) := by decide +kernel
theorem dL_law_414 : decode cL_law 414 = .ok (.iadd, 1) := by decide +kernel
theorem dL_law_415 : decode cL_law 415 = .ok (.iaload, 1) := by decide +kernel
theorem dL_law_416 : decode cL_law 416 = .ok (.aload_n 0, 1) := by decide +kernel
theorem dL_law_417 : decode cL_law 417 = .ok (.iload_n 3, 1) := by decide +kernel
theorem dL_law_418 : decode cL_law 418 = .ok (.iconst 2, 1) := by decide +kernel
theorem dL_law_419 : decode cL_law 419 = .ok (.iadd, 1) := by decide +kernel
theorem dL_law_420 : decode cL_law 420 = .ok (.iaload, 1) := by decide +kernel
theorem dL_law_421 : decode cL_law 421 = .ok (.aload_n 0, 1) := by decide +kernel
theorem dL_law_422 : decode cL_law 422 = .ok (.iload_n 3, 1) := by decide +kernel
theorem dL_law_423 : decode cL_law 423 = .ok (.iconst 3, 1) := by decide +kernel
theorem dL_law_424 : decode cL_law 424 = .ok (.iadd, 1) := by decide +kernel
theorem dL_law_425 : decode cL_law 425 = .ok (.iaload, 1) := by decide +kernel
theorem dL_law_426 : decode cL_law 426 = .ok (.aload_n 0, 1) := by decide +kernel
theorem dL_law_427 : decode cL_law 427 = .ok (.iload_n 3, 1) := by decide +kernel
theorem dL_law_428 : decode cL_law 428 = .ok (.iconst 4, 1) := by decide +kernel
theorem dL_law_429 : decode cL_law 429 = .ok (.iadd, 1) := by decide +kernel
theorem dL_law_430 : decode cL_law 430 = .ok (.iaload, 1) := by decide +kernel
theorem dL_law_431 : decode cL_law 431 = .ok (.invokevirtual 54, 3) := by decide +kernel
theorem dL_law_434 : decode cL_law 434 = .ok (.if_icmp .eq 893, 3) := by decide +kernel
theorem dL_law_437 : decode cL_law 437 = .ok (.iconst 0, 1) := by decide +kernel
theorem dL_law_438 : decode cL_law 438 = .ok (.ireturn, 1) := by decide +kernel
theorem dL_law_439 : decode cL_law 439 = .ok (.aload_n 1, 1) := by decide +kernel
theorem dL_law_440 : decode cL_law 440 = .ok (.aload_n 0, 1) := by decide +kernel
theorem dL_law_441 : decode cL_law 441 = .ok (.iload_n 3, 1) := by decide +kernel
theorem dL_law_442 : decode cL_law 442 = .ok (.iconst 1, 1) := by decide +kernel
theorem dL_law_443 : decode cL_law 443 = .ok (.iadd, 1) := by decide +kernel
theorem dL_law_444 : decode cL_law 444 = .ok (.iaload, 1) := by decide +kernel
theorem dL_law_445 : decode cL_law 445 = .ok (.invokevirtual 55, 3) := by decide +kernel
theorem dL_law_448 : decode cL_law 448 = .ok (.aload_n 2, 1) := by decide +kernel
theorem dL_law_449 : decode cL_law 449 = .ok (.aload_n 0, 1) := by decide +kernel
theorem dL_law_450 : decode cL_law 450 = .ok (.iload_n 3, 1) := by decide +kernel
theorem dL_law_451 : decode cL_law 451 = .ok (.iconst 1, 1) := by decide +kernel
theorem dL_law_452 : decode cL_law 452 = .ok (.iadd, 1) := by decide +kernel
theorem dL_law_453 : decode cL_law 453 = .ok (.iaload, 1) := by decide +kernel
theorem dL_law_454 : decode cL_law 454 = .ok (.invokevirtual 58, 3) := by decide +kernel
theorem dL_law_457 : decode cL_law 457 = .ok (.lcmp, 1) := by decide +kernel
theorem dL_law_458 : decode cL_law 458 = .ok (.ifCond .eq 869, 3) := by decide +kernel
theorem dL_law_461 : decode cL_law 461 = .ok (.iconst 0, 1) := by decide +kernel
theorem dL_law_462 : decode cL_law 462 = .ok (.ireturn, 1) := by decide +kernel
theorem dL_law_463 : decode cL_law 463 = .ok (.aload_n 1, 1) := by decide +kernel
theorem dL_law_464 : decode cL_law 464 = .ok (.aload_n 0, 1) := by decide +kernel
theorem dL_law_465 : decode cL_law 465 = .ok (.iload_n 3, 1) := by decide +kernel
theorem dL_law_466 : decode cL_law 466 = .ok (.iconst 1, 1) := by decide +kernel
theorem dL_law_467 : decode cL_law 467 = .ok (.iadd, 1) := by decide +kernel
theorem dL_law_468 : decode cL_law 468 = .ok (.iaload, 1) := by decide +kernel
theorem dL_law_469 : decode cL_law 469 = .ok (.aload_n 0, 1) := by decide +kernel
theorem dL_law_470 : decode cL_law 470 = .ok (.iload_n 3, 1) := by decide +kernel
theorem dL_law_471 : decode cL_law 471 = .ok (.iconst 2, 1) := by decide +kernel
theorem dL_law_472 : decode cL_law 472 = .ok (.iadd, 1) := by decide +kernel
theorem dL_law_473 : decode cL_law 473 = .ok (.iaload, 1) := by decide +kernel
theorem dL_law_474 : decode cL_law 474 = .ok (.invokevirtual 59, 3) := by decide +kernel
theorem dL_law_477 : decode cL_law 477 = .ok (.aload_n 2, 1) := by decide +kernel
theorem dL_law_478 : decode cL_law 478 = .ok (.aload_n 0, 1) := by decide +kernel
theorem dL_law_479 : decode cL_law 479 = .ok (.iload_n 3, 1) := by decide +kernel
theorem dL_law_480 : decode cL_law 480 = .ok (.iconst 1, 1) := by decide +kernel
theorem dL_law_481 : decode cL_law 481 = .ok (.iadd, 1) := by decide +kernel
theorem dL_law_482 : decode cL_law 482 = .ok (.iaload, 1) := by decide +kernel
theorem dL_law_483 : decode cL_law 483 = .ok (.aload_n 0, 1) := by decide +kernel
theorem dL_law_484 : decode cL_law 484 = .ok (.iload_n 3, 1) := by decide +kernel
theorem dL_law_485 : decode cL_law 485 = .ok (.iconst 2, 1) := by decide +kernel
theorem dL_law_486 : decode cL_law 486 = .ok (.iadd, 1) := by decide +kernel
theorem dL_law_487 : decode cL_law 487 = .ok (.iaload, 1) := by decide +kernel
theorem dL_law_488 : decode cL_law 488 = .ok (.invokevirtual 62, 3) := by decide +kernel
theorem dL_law_491 : decode cL_law 491 = .ok (.if_icmp .eq 836, 3) := by decide +kernel
theorem dL_law_494 : decode cL_law 494 = .ok (.iconst 0, 1) := by decide +kernel
theorem dL_law_495 : decode cL_law 495 = .ok (.ireturn, 1) := by decide +kernel
theorem dL_law_496 : decode cL_law 496 = .ok (.aload_n 1, 1) := by decide +kernel
theorem dL_law_497 : decode cL_law 497 = .ok (.aload_n 0, 1) := by decide +kernel
theorem dL_law_498 : decode cL_law 498 = .ok (.iload_n 3, 1) := by decide +kernel
theorem dL_law_499 : decode cL_law 499 = .ok (.iconst 1, 1) := by decide +kernel
theorem dL_law_500 : decode cL_law 500 = .ok (.iadd, 1) := by decide +kernel
theorem dL_law_501 : decode cL_law 501 = .ok (.iaload, 1) := by decide +kernel
theorem dL_law_502 : decode cL_law 502 = .ok (.aload_n 0, 1) := by decide +kernel
theorem dL_law_503 : decode cL_law 503 = .ok (.iload_n 3, 1) := by decide +kernel
theorem dL_law_504 : decode cL_law 504 = .ok (.iconst 2, 1) := by decide +kernel
theorem dL_law_505 : decode cL_law 505 = .ok (.iadd, 1) := by decide +kernel
theorem dL_law_506 : decode cL_law 506 = .ok (.iaload, 1) := by decide +kernel
theorem dL_law_507 : decode cL_law 507 = .ok (.invokevirtual 63, 3) := by decide +kernel
theorem dL_law_510 : decode cL_law 510 = .ok (.aload_n 2, 1) := by decide +kernel
theorem dL_law_511 : decode cL_law 511 = .ok (.aload_n 0, 1) := by decide +kernel
theorem dL_law_512 : decode cL_law 512 = .ok (.iload_n 3, 1) := by decide +kernel
theorem dL_law_513 : decode cL_law 513 = .ok (.iconst 1, 1) := by decide +kernel
theorem dL_law_514 : decode cL_law 514 = .ok (.iadd, 1) := by decide +kernel
theorem dL_law_515 : decode cL_law 515 = .ok (.iaload, 1) := by decide +kernel
theorem dL_law_516 : decode cL_law 516 = .ok (.aload_n 0, 1) := by decide +kernel
theorem dL_law_517 : decode cL_law 517 = .ok (.iload_n 3, 1) := by decide +kernel
theorem dL_law_518 : decode cL_law 518 = .ok (.iconst 2, 1) := by decide +kernel
theorem dL_law_519 : decode cL_law 519 = .ok (.iadd, 1) := by decide +kernel
theorem dL_law_520 : decode cL_law 520 = .ok (.iaload, 1) := by decide +kernel
theorem dL_law_521 : decode cL_law 521 = .ok (.invokevirtual 66, 3) := by decide +kernel
theorem dL_law_524 : decode cL_law 524 = .ok (.if_icmp .eq 803, 3) := by decide +kernel
theorem dL_law_527 : decode cL_law 527 = .ok (.iconst 0, 1) := by decide +kernel
theorem dL_law_528 : decode cL_law 528 = .ok (.ireturn, 1) := by decide +kernel
theorem dL_law_529 : decode cL_law 529 = .ok (.aload_n 1, 1) := by decide +kernel
theorem dL_law_530 : decode cL_law 530 = .ok (.aload_n 0, 1) := by decide +kernel
theorem dL_law_531 : decode cL_law 531 = .ok (.iload_n 3, 1) := by decide +kernel
theorem dL_law_532 : decode cL_law 532 = .ok (.iconst 1, 1) := by decide +kernel
theorem dL_law_533 : decode cL_law 533 = .ok (.iadd, 1) := by decide +kernel
theorem dL_law_534 : decode cL_law 534 = .ok (.iaload, 1) := by decide +kernel
theorem dL_law_535 : decode cL_law 535 = .ok (.invokevirtual 67, 3) := by decide +kernel
theorem dL_law_538 : decode cL_law 538 = .ok (.aload_n 2, 1) := by decide +kernel
theorem dL_law_539 : decode cL_law 539 = .ok (.aload_n 0, 1) := by decide +kernel
theorem dL_law_540 : decode cL_law 540 = .ok (.iload_n 3, 1) := by decide +kernel
theorem dL_law_541 : decode cL_law 541 = .ok (.iconst 1, 1) := by decide +kernel
theorem dL_law_542 : decode cL_law 542 = .ok (.iadd, 1) := by decide +kernel
theorem dL_law_543 : decode cL_law 543 = .ok (.iaload, 1) := by decide +kernel
theorem dL_law_544 : decode cL_law 544 = .ok (.invokevirtual 71, 3) := by decide +kernel
theorem dL_law_547 : decode cL_law 547 = .ok (.if_icmp .eq 780, 3) := by decide +kernel
theorem dL_law_550 : decode cL_law 550 = .ok (.iconst 0, 1) := by decide +kernel
theorem dL_law_551 : decode cL_law 551 = .ok (.ireturn, 1) := by decide +kernel
theorem dL_law_552 : decode cL_law 552 = .ok (.aload_n 1, 1) := by decide +kernel
theorem dL_law_553 : decode cL_law 553 = .ok (.aload_n 0, 1) := by decide +kernel
theorem dL_law_554 : decode cL_law 554 = .ok (.iload_n 3, 1) := by decide +kernel
theorem dL_law_555 : decode cL_law 555 = .ok (.iconst 1, 1) := by decide +kernel
theorem dL_law_556 : decode cL_law 556 = .ok (.iadd, 1) := by decide +kernel
theorem dL_law_557 : decode cL_law 557 = .ok (.iaload, 1) := by decide +kernel
theorem dL_law_558 : decode cL_law 558 = .ok (.aload_n 0, 1) := by decide +kernel
theorem dL_law_559 : decode cL_law 559 = .ok (.iload_n 3, 1) := by decide +kernel
theorem dL_law_560 : decode cL_law 560 = .ok (.iconst 2, 1) := by decide +kernel
theorem dL_law_561 : decode cL_law 561 = .ok (.iadd, 1) := by decide +kernel
theorem dL_law_562 : decode cL_law 562 = .ok (.iaload, 1) := by decide +kernel
theorem dL_law_563 : decode cL_law 563 = .ok (.aload_n 0, 1) := by decide +kernel
theorem dL_law_564 : decode cL_law 564 = .ok (.iload_n 3, 1) := by decide +kernel
theorem dL_law_565 : decode cL_law 565 = .ok (.iconst 3, 1) := by decide +kernel
theorem dL_law_566 : decode cL_law 566 = .ok (.iadd, 1) := by decide +kernel
theorem dL_law_567 : decode cL_law 567 = .ok (.iaload, 1) := by decide +kernel
theorem dL_law_568 : decode cL_law 568 = .ok (.aload_n 0, 1) := by decide +kernel
theorem dL_law_569 : decode cL_law 569 = .ok (.iload_n 3, 1) := by decide +kernel
theorem dL_law_570 : decode cL_law 570 = .ok (.iconst 4, 1) := by decide +kernel
theorem dL_law_571 : decode cL_law 571 = .ok (.iadd, 1) := by decide +kernel
theorem dL_law_572 : decode cL_law 572 = .ok (.iaload, 1) := by decide +kernel
theorem dL_law_573 : decode cL_law 573 = .ok (.invokevirtual 72, 3) := by decide +kernel
theorem dL_law_576 : decode cL_law 576 = .ok (.aload_n 2, 1) := by decide +kernel
theorem dL_law_577 : decode cL_law 577 = .ok (.aload_n 0, 1) := by decide +kernel
theorem dL_law_578 : decode cL_law 578 = .ok (.iload_n 3, 1) := by decide +kernel
theorem dL_law_579 : decode cL_law 579 = .ok (.iconst 1, 1) := by decide +kernel
theorem dL_law_580 : decode cL_law 580 = .ok (.iadd, 1) := by decide +kernel
theorem dL_law_581 : decode cL_law 581 = .ok (.iaload, 1) := by decide +kernel
theorem dL_law_582 : decode cL_law 582 = .ok (.aload_n 0, 1) := by decide +kernel
theorem dL_law_583 : decode cL_law 583 = .ok (.iload_n 3, 1) := by decide +kernel
theorem dL_law_584 : decode cL_law 584 = .ok (.iconst 2, 1) := by decide +kernel
theorem dL_law_585 : decode cL_law 585 = .ok (.iadd, 1) := by decide +kernel
theorem dL_law_586 : decode cL_law 586 = .ok (.iaload, 1) := by decide +kernel
theorem dL_law_587 : decode cL_law 587 = .ok (.aload_n 0, 1) := by decide +kernel
theorem dL_law_588 : decode cL_law 588 = .ok (.iload_n 3, 1) := by decide +kernel
theorem dL_law_589 : decode cL_law 589 = .ok (.iconst 3, 1) := by decide +kernel
theorem dL_law_590 : decode cL_law 590 = .ok (.iadd, 1) := by decide +kernel
theorem dL_law_591 : decode cL_law 591 = .ok (.iaload, 1) := by decide +kernel
theorem dL_law_592 : decode cL_law 592 = .ok (.aload_n 0, 1) := by decide +kernel
theorem dL_law_593 : decode cL_law 593 = .ok (.iload_n 3, 1) := by decide +kernel
theorem dL_law_594 : decode cL_law 594 = .ok (.iconst 4, 1) := by decide +kernel
theorem dL_law_595 : decode cL_law 595 = .ok (.iadd, 1) := by decide +kernel
theorem dL_law_596 : decode cL_law 596 = .ok (.iaload, 1) := by decide +kernel
theorem dL_law_597 : decode cL_law 597 = .ok (.invokevirtual 75, 3) := by decide +kernel
theorem dL_law_600 : decode cL_law 600 = .ok (.if_icmp .eq 727, 3) := by decide +kernel
theorem dL_law_603 : decode cL_law 603 = .ok (.iconst 0, 1) := by decide +kernel
theorem dL_law_604 : decode cL_law 604 = .ok (.ireturn, 1) := by decide +kernel
theorem dL_law_605 : decode cL_law 605 = .ok (.aload_n 1, 1) := by decide +kernel
theorem dL_law_606 : decode cL_law 606 = .ok (.aload_n 0, 1) := by decide +kernel
theorem dL_law_607 : decode cL_law 607 = .ok (.iload_n 3, 1) := by decide +kernel
theorem dL_law_608 : decode cL_law 608 = .ok (.iconst 1, 1) := by decide +kernel
theorem dL_law_609 : decode cL_law 609 = .ok (.iadd, 1) := by decide +kernel
theorem dL_law_610 : decode cL_law 610 = .ok (.iaload, 1) := by decide +kernel
theorem dL_law_611 : decode cL_law 611 = .ok (.aload_n 0, 1) := by decide +kernel
theorem dL_law_612 : decode cL_law 612 = .ok (.iload_n 3, 1) := by decide +kernel
theorem dL_law_613 : decode cL_law 613 = .ok (.iconst 2, 1) := by decide +kernel
theorem dL_law_614 : decode cL_law 614 = .ok (.iadd, 1) := by decide +kernel
theorem dL_law_615 : decode cL_law 615 = .ok (.iaload, 1) := by decide +kernel
theorem dL_law_616 : decode cL_law 616 = .ok (.aload_n 0, 1) := by decide +kernel
theorem dL_law_617 : decode cL_law 617 = .ok (.iload_n 3, 1) := by decide +kernel
theorem dL_law_618 : decode cL_law 618 = .ok (.iconst 3, 1) := by decide +kernel
theorem dL_law_619 : decode cL_law 619 = .ok (.iadd, 1) := by decide +kernel
theorem dL_law_620 : decode cL_law 620 = .ok (.iaload, 1) := by decide +kernel
theorem dL_law_621 : decode cL_law 621 = .ok (.invokevirtual 76, 3) := by decide +kernel
theorem dL_law_624 : decode cL_law 624 = .ok (.aload_n 2, 1) := by decide +kernel
theorem dL_law_625 : decode cL_law 625 = .ok (.aload_n 0, 1) := by decide +kernel
theorem dL_law_626 : decode cL_law 626 = .ok (.iload_n 3, 1) := by decide +kernel
theorem dL_law_627 : decode cL_law 627 = .ok (.iconst 1, 1) := by decide +kernel
theorem dL_law_628 : decode cL_law 628 = .ok (.iadd, 1) := by decide +kernel
theorem dL_law_629 : decode cL_law 629 = .ok (.iaload, 1) := by decide +kernel
theorem dL_law_630 : decode cL_law 630 = .ok (.aload_n 0, 1) := by decide +kernel
theorem dL_law_631 : decode cL_law 631 = .ok (.iload_n 3, 1) := by decide +kernel
theorem dL_law_632 : decode cL_law 632 = .ok (.iconst 2, 1) := by decide +kernel
theorem dL_law_633 : decode cL_law 633 = .ok (.iadd, 1) := by decide +kernel
theorem dL_law_634 : decode cL_law 634 = .ok (.iaload, 1) := by decide +kernel
theorem dL_law_635 : decode cL_law 635 = .ok (.aload_n 0, 1) := by decide +kernel
theorem dL_law_636 : decode cL_law 636 = .ok (.iload_n 3, 1) := by decide +kernel
theorem dL_law_637 : decode cL_law 637 = .ok (.iconst 3, 1) := by decide +kernel
theorem dL_law_638 : decode cL_law 638 = .ok (.iadd, 1) := by decide +kernel
theorem dL_law_639 : decode cL_law 639 = .ok (.iaload, 1) := by decide +kernel
theorem dL_law_640 : decode cL_law 640 = .ok (.invokevirtual 80, 3) := by decide +kernel
theorem dL_law_643 : decode cL_law 643 = .ok (.if_icmp .eq 684, 3) := by decide +kernel
theorem dL_law_646 : decode cL_law 646 = .ok (.iconst 0, 1) := by decide +kernel
theorem dL_law_647 : decode cL_law 647 = .ok (.ireturn, 1) := by decide +kernel
theorem dL_law_648 : decode cL_law 648 = .ok (.aload_n 1, 1) := by decide +kernel
theorem dL_law_649 : decode cL_law 649 = .ok (.aload_n 0, 1) := by decide +kernel
theorem dL_law_650 : decode cL_law 650 = .ok (.iload_n 3, 1) := by decide +kernel
theorem dL_law_651 : decode cL_law 651 = .ok (.iconst 1, 1) := by decide +kernel
theorem dL_law_652 : decode cL_law 652 = .ok (.iadd, 1) := by decide +kernel
theorem dL_law_653 : decode cL_law 653 = .ok (.iaload, 1) := by decide +kernel
theorem dL_law_654 : decode cL_law 654 = .ok (.aload_n 0, 1) := by decide +kernel
theorem dL_law_655 : decode cL_law 655 = .ok (.iload_n 3, 1) := by decide +kernel
theorem dL_law_656 : decode cL_law 656 = .ok (.iconst 2, 1) := by decide +kernel
theorem dL_law_657 : decode cL_law 657 = .ok (.iadd, 1) := by decide +kernel
theorem dL_law_658 : decode cL_law 658 = .ok (.iaload, 1) := by decide +kernel
theorem dL_law_659 : decode cL_law 659 = .ok (.aload_n 0, 1) := by decide +kernel
theorem dL_law_660 : decode cL_law 660 = .ok (.iload_n 3, 1) := by decide +kernel
theorem dL_law_661 : decode cL_law 661 = .ok (.iconst 3, 1) := by decide +kernel
theorem dL_law_662 : decode cL_law 662 = .ok (.iadd, 1) := by decide +kernel
theorem dL_law_663 : decode cL_law 663 = .ok (.iaload, 1) := by decide +kernel
theorem dL_law_664 : decode cL_law 664 = .ok (.invokevirtual 81, 3) := by decide +kernel
theorem dL_law_667 : decode cL_law 667 = .ok (.aload_n 2, 1) := by decide +kernel
theorem dL_law_668 : decode cL_law 668 = .ok (.aload_n 0, 1) := by decide +kernel
theorem dL_law_669 : decode cL_law 669 = .ok (.iload_n 3, 1) := by decide +kernel
theorem dL_law_670 : decode cL_law 670 = .ok (.iconst 1, 1) := by decide +kernel
theorem dL_law_671 : decode cL_law 671 = .ok (.iadd, 1) := by decide +kernel
theorem dL_law_672 : decode cL_law 672 = .ok (.iaload, 1) := by decide +kernel
theorem dL_law_673 : decode cL_law 673 = .ok (.aload_n 0, 1) := by decide +kernel
theorem dL_law_674 : decode cL_law 674 = .ok (.iload_n 3, 1) := by decide +kernel
theorem dL_law_675 : decode cL_law 675 = .ok (.iconst 2, 1) := by decide +kernel
theorem dL_law_676 : decode cL_law 676 = .ok (.iadd, 1) := by decide +kernel
theorem dL_law_677 : decode cL_law 677 = .ok (.iaload, 1) := by decide +kernel
theorem dL_law_678 : decode cL_law 678 = .ok (.aload_n 0, 1) := by decide +kernel
theorem dL_law_679 : decode cL_law 679 = .ok (.iload_n 3, 1) := by decide +kernel
theorem dL_law_680 : decode cL_law 680 = .ok (.iconst 3, 1) := by decide +kernel
theorem dL_law_681 : decode cL_law 681 = .ok (.iadd, 1) := by decide +kernel
theorem dL_law_682 : decode cL_law 682 = .ok (.iaload, 1) := by decide +kernel
theorem dL_law_683 : decode cL_law 683 = .ok (.invokevirtual 84, 3) := by decide +kernel
theorem dL_law_686 : decode cL_law 686 = .ok (.if_icmp .eq 641, 3) := by decide +kernel
theorem dL_law_689 : decode cL_law 689 = .ok (.iconst 0, 1) := by decide +kernel
theorem dL_law_690 : decode cL_law 690 = .ok (.ireturn, 1) := by decide +kernel
theorem dL_law_691 : decode cL_law 691 = .ok (.aload_n 1, 1) := by decide +kernel
theorem dL_law_692 : decode cL_law 692 = .ok (.aload_n 0, 1) := by decide +kernel
theorem dL_law_693 : decode cL_law 693 = .ok (.iload_n 3, 1) := by decide +kernel
theorem dL_law_694 : decode cL_law 694 = .ok (.iconst 1, 1) := by decide +kernel
theorem dL_law_695 : decode cL_law 695 = .ok (.iadd, 1) := by decide +kernel
theorem dL_law_696 : decode cL_law 696 = .ok (.iaload, 1) := by decide +kernel
theorem dL_law_697 : decode cL_law 697 = .ok (.aload_n 0, 1) := by decide +kernel
theorem dL_law_698 : decode cL_law 698 = .ok (.iload_n 3, 1) := by decide +kernel
theorem dL_law_699 : decode cL_law 699 = .ok (.iconst 2, 1) := by decide +kernel
theorem dL_law_700 : decode cL_law 700 = .ok (.iadd, 1) := by decide +kernel
theorem dL_law_701 : decode cL_law 701 = .ok (.iaload, 1) := by decide +kernel
theorem dL_law_702 : decode cL_law 702 = .ok (.aload_n 0, 1) := by decide +kernel
theorem dL_law_703 : decode cL_law 703 = .ok (.iload_n 3, 1) := by decide +kernel
theorem dL_law_704 : decode cL_law 704 = .ok (.iconst 3, 1) := by decide +kernel
theorem dL_law_705 : decode cL_law 705 = .ok (.iadd, 1) := by decide +kernel
theorem dL_law_706 : decode cL_law 706 = .ok (.iaload, 1) := by decide +kernel
theorem dL_law_707 : decode cL_law 707 = .ok (.invokevirtual 85, 3) := by decide +kernel
theorem dL_law_710 : decode cL_law 710 = .ok (.aload_n 2, 1) := by decide +kernel
theorem dL_law_711 : decode cL_law 711 = .ok (.aload_n 0, 1) := by decide +kernel
theorem dL_law_712 : decode cL_law 712 = .ok (.iload_n 3, 1) := by decide +kernel
theorem dL_law_713 : decode cL_law 713 = .ok (.iconst 1, 1) := by decide +kernel
theorem dL_law_714 : decode cL_law 714 = .ok (.iadd, 1) := by decide +kernel
theorem dL_law_715 : decode cL_law 715 = .ok (.iaload, 1) := by decide +kernel
theorem dL_law_716 : decode cL_law 716 = .ok (.aload_n 0, 1) := by decide +kernel
theorem dL_law_717 : decode cL_law 717 = .ok (.iload_n 3, 1) := by decide +kernel
theorem dL_law_718 : decode cL_law 718 = .ok (.iconst 2, 1) := by decide +kernel
theorem dL_law_719 : decode cL_law 719 = .ok (.iadd, 1) := by decide +kernel
theorem dL_law_720 : decode cL_law 720 = .ok (.iaload, 1) := by decide +kernel
theorem dL_law_721 : decode cL_law 721 = .ok (.aload_n 0, 1) := by decide +kernel
theorem dL_law_722 : decode cL_law 722 = .ok (.iload_n 3, 1) := by decide +kernel
theorem dL_law_723 : decode cL_law 723 = .ok (.iconst 3, 1) := by decide +kernel
theorem dL_law_724 : decode cL_law 724 = .ok (.iadd, 1) := by decide +kernel
theorem dL_law_725 : decode cL_law 725 = .ok (.iaload, 1) := by decide +kernel
theorem dL_law_726 : decode cL_law 726 = .ok (.invokevirtual 88, 3) := by decide +kernel
theorem dL_law_729 : decode cL_law 729 = .ok (.if_icmp .eq 598, 3) := by decide +kernel
theorem dL_law_732 : decode cL_law 732 = .ok (.iconst 0, 1) := by decide +kernel
theorem dL_law_733 : decode cL_law 733 = .ok (.ireturn, 1) := by decide +kernel
theorem dL_law_734 : decode cL_law 734 = .ok (.aload_n 1, 1) := by decide +kernel
theorem dL_law_735 : decode cL_law 735 = .ok (.aload_n 0, 1) := by decide +kernel
theorem dL_law_736 : decode cL_law 736 = .ok (.iload_n 3, 1) := by decide +kernel
theorem dL_law_737 : decode cL_law 737 = .ok (.iconst 1, 1) := by decide +kernel
theorem dL_law_738 : decode cL_law 738 = .ok (.iadd, 1) := by decide +kernel
theorem dL_law_739 : decode cL_law 739 = .ok (.iaload, 1) := by decide +kernel
theorem dL_law_740 : decode cL_law 740 = .ok (.aload_n 0, 1) := by decide +kernel
theorem dL_law_741 : decode cL_law 741 = .ok (.iload_n 3, 1) := by decide +kernel
theorem dL_law_742 : decode cL_law 742 = .ok (.iconst 2, 1) := by decide +kernel
theorem dL_law_743 : decode cL_law 743 = .ok (.iadd, 1) := by decide +kernel
theorem dL_law_744 : decode cL_law 744 = .ok (.iaload, 1) := by decide +kernel
theorem dL_law_745 : decode cL_law 745 = .ok (.aload_n 0, 1) := by decide +kernel
theorem dL_law_746 : decode cL_law 746 = .ok (.iload_n 3, 1) := by decide +kernel
theorem dL_law_747 : decode cL_law 747 = .ok (.iconst 3, 1) := by decide +kernel
theorem dL_law_748 : decode cL_law 748 = .ok (.iadd, 1) := by decide +kernel
theorem dL_law_749 : decode cL_law 749 = .ok (.iaload, 1) := by decide +kernel
theorem dL_law_750 : decode cL_law 750 = .ok (.aload_n 0, 1) := by decide +kernel
theorem dL_law_751 : decode cL_law 751 = .ok (.iload_n 3, 1) := by decide +kernel
theorem dL_law_752 : decode cL_law 752 = .ok (.iconst 4, 1) := by decide +kernel
theorem dL_law_753 : decode cL_law 753 = .ok (.iadd, 1) := by decide +kernel
theorem dL_law_754 : decode cL_law 754 = .ok (.iaload, 1) := by decide +kernel
theorem dL_law_755 : decode cL_law 755 = .ok (.aload_n 0, 1) := by decide +kernel
theorem dL_law_756 : decode cL_law 756 = .ok (.iload_n 3, 1) := by decide +kernel
theorem dL_law_757 : decode cL_law 757 = .ok (.iconst 5, 1) := by decide +kernel
theorem dL_law_758 : decode cL_law 758 = .ok (.iadd, 1) := by decide +kernel
theorem dL_law_759 : decode cL_law 759 = .ok (.iaload, 1) := by decide +kernel
theorem dL_law_760 : decode cL_law 760 = .ok (.invokevirtual 89, 3) := by decide +kernel
theorem dL_law_763 : decode cL_law 763 = .ok (.aload_n 2, 1) := by decide +kernel
theorem dL_law_764 : decode cL_law 764 = .ok (.aload_n 0, 1) := by decide +kernel
theorem dL_law_765 : decode cL_law 765 = .ok (.iload_n 3, 1) := by decide +kernel
theorem dL_law_766 : decode cL_law 766 = .ok (.iconst 1, 1) := by decide +kernel
theorem dL_law_767 : decode cL_law 767 = .ok (.iadd, 1) := by decide +kernel
theorem dL_law_768 : decode cL_law 768 = .ok (.iaload, 1) := by decide +kernel
theorem dL_law_769 : decode cL_law 769 = .ok (.aload_n 0, 1) := by decide +kernel
theorem dL_law_770 : decode cL_law 770 = .ok (.iload_n 3, 1) := by decide +kernel
theorem dL_law_771 : decode cL_law 771 = .ok (.iconst 2, 1) := by decide +kernel
theorem dL_law_772 : decode cL_law 772 = .ok (.iadd, 1) := by decide +kernel
theorem dL_law_773 : decode cL_law 773 = .ok (.iaload, 1) := by decide +kernel
theorem dL_law_774 : decode cL_law 774 = .ok (.aload_n 0, 1) := by decide +kernel
theorem dL_law_775 : decode cL_law 775 = .ok (.iload_n 3, 1) := by decide +kernel
theorem dL_law_776 : decode cL_law 776 = .ok (.iconst 3, 1) := by decide +kernel
theorem dL_law_777 : decode cL_law 777 = .ok (.iadd, 1) := by decide +kernel
theorem dL_law_778 : decode cL_law 778 = .ok (.iaload, 1) := by decide +kernel
theorem dL_law_779 : decode cL_law 779 = .ok (.aload_n 0, 1) := by decide +kernel
theorem dL_law_780 : decode cL_law 780 = .ok (.iload_n 3, 1) := by decide +kernel
theorem dL_law_781 : decode cL_law 781 = .ok (.iconst 4, 1) := by decide +kernel
theorem dL_law_782 : decode cL_law 782 = .ok (.iadd, 1) := by decide +kernel
theorem dL_law_783 : decode cL_law 783 = .ok (.iaload, 1) := by decide +kernel
theorem dL_law_784 : decode cL_law 784 = .ok (.aload_n 0, 1) := by decide +kernel
theorem dL_law_785 : decode cL_law 785 = .ok (.iload_n 3, 1) := by decide +kernel
theorem dL_law_786 : decode cL_law 786 = .ok (.iconst 5, 1) := by decide +kernel
theorem dL_law_787 : decode cL_law 787 = .ok (.iadd, 1) := by decide +kernel
theorem dL_law_788 : decode cL_law 788 = .ok (.iaload, 1) := by decide +kernel
theorem dL_law_789 : decode cL_law 789 = .ok (.invokevirtual 93, 3) := by decide +kernel
theorem dL_law_792 : decode cL_law 792 = .ok (.if_icmp .eq 535, 3) := by decide +kernel
theorem dL_law_795 : decode cL_law 795 = .ok (.iconst 0, 1) := by decide +kernel
theorem dL_law_796 : decode cL_law 796 = .ok (.ireturn, 1) := by decide +kernel
theorem dL_law_797 : decode cL_law 797 = .ok (.aload_n 1, 1) := by decide +kernel
theorem dL_law_798 : decode cL_law 798 = .ok (.aload_n 0, 1) := by decide +kernel
theorem dL_law_799 : decode cL_law 799 = .ok (.iload_n 3, 1) := by decide +kernel
theorem dL_law_800 : decode cL_law 800 = .ok (.iconst 1, 1) := by decide +kernel
theorem dL_law_801 : decode cL_law 801 = .ok (.iadd, 1) := by decide +kernel
theorem dL_law_802 : decode cL_law 802 = .ok (.iaload, 1) := by decide +kernel
theorem dL_law_803 : decode cL_law 803 = .ok (.aload_n 0, 1) := by decide +kernel
theorem dL_law_804 : decode cL_law 804 = .ok (.iload_n 3, 1) := by decide +kernel
theorem dL_law_805 : decode cL_law 805 = .ok (.iconst 2, 1) := by decide +kernel
theorem dL_law_806 : decode cL_law 806 = .ok (.iadd, 1) := by decide +kernel
theorem dL_law_807 : decode cL_law 807 = .ok (.iaload, 1) := by decide +kernel
theorem dL_law_808 : decode cL_law 808 = .ok (.invokevirtual 94, 3) := by decide +kernel
theorem dL_law_811 : decode cL_law 811 = .ok (.aload_n 2, 1) := by decide +kernel
theorem dL_law_812 : decode cL_law 812 = .ok (.aload_n 0, 1) := by decide +kernel
theorem dL_law_813 : decode cL_law 813 = .ok (.iload_n 3, 1) := by decide +kernel
theorem dL_law_814 : decode cL_law 814 = .ok (.iconst 1, 1) := by decide +kernel
theorem dL_law_815 : decode cL_law 815 = .ok (.iadd, 1) := by decide +kernel
theorem dL_law_816 : decode cL_law 816 = .ok (.iaload, 1) := by decide +kernel
theorem dL_law_817 : decode cL_law 817 = .ok (.aload_n 0, 1) := by decide +kernel
theorem dL_law_818 : decode cL_law 818 = .ok (.iload_n 3, 1) := by decide +kernel
theorem dL_law_819 : decode cL_law 819 = .ok (.iconst 2, 1) := by decide +kernel
theorem dL_law_820 : decode cL_law 820 = .ok (.iadd, 1) := by decide +kernel
theorem dL_law_821 : decode cL_law 821 = .ok (.iaload, 1) := by decide +kernel
theorem dL_law_822 : decode cL_law 822 = .ok (.invokevirtual 97, 3) := by decide +kernel
theorem dL_law_825 : decode cL_law 825 = .ok (.lcmp, 1) := by decide +kernel
theorem dL_law_826 : decode cL_law 826 = .ok (.ifCond .eq 501, 3) := by decide +kernel
theorem dL_law_829 : decode cL_law 829 = .ok (.iconst 0, 1) := by decide +kernel
theorem dL_law_830 : decode cL_law 830 = .ok (.ireturn, 1) := by decide +kernel
theorem dL_law_831 : decode cL_law 831 = .ok (.aload_n 1, 1) := by decide +kernel
theorem dL_law_832 : decode cL_law 832 = .ok (.aload_n 0, 1) := by decide +kernel
theorem dL_law_833 : decode cL_law 833 = .ok (.iload_n 3, 1) := by decide +kernel
theorem dL_law_834 : decode cL_law 834 = .ok (.iconst 1, 1) := by decide +kernel
theorem dL_law_835 : decode cL_law 835 = .ok (.iadd, 1) := by decide +kernel
theorem dL_law_836 : decode cL_law 836 = .ok (.iaload, 1) := by decide +kernel
theorem dL_law_837 : decode cL_law 837 = .ok (.aload_n 0, 1) := by decide +kernel
theorem dL_law_838 : decode cL_law 838 = .ok (.iload_n 3, 1) := by decide +kernel
theorem dL_law_839 : decode cL_law 839 = .ok (.iconst 2, 1) := by decide +kernel
theorem dL_law_840 : decode cL_law 840 = .ok (.iadd, 1) := by decide +kernel
theorem dL_law_841 : decode cL_law 841 = .ok (.iaload, 1) := by decide +kernel
theorem dL_law_842 : decode cL_law 842 = .ok (.aload_n 0, 1) := by decide +kernel
theorem dL_law_843 : decode cL_law 843 = .ok (.iload_n 3, 1) := by decide +kernel
theorem dL_law_844 : decode cL_law 844 = .ok (.iconst 3, 1) := by decide +kernel
theorem dL_law_845 : decode cL_law 845 = .ok (.iadd, 1) := by decide +kernel
theorem dL_law_846 : decode cL_law 846 = .ok (.iaload, 1) := by decide +kernel
theorem dL_law_847 : decode cL_law 847 = .ok (.invokevirtual 98, 3) := by decide +kernel
theorem dL_law_850 : decode cL_law 850 = .ok (.aload_n 2, 1) := by decide +kernel
theorem dL_law_851 : decode cL_law 851 = .ok (.aload_n 0, 1) := by decide +kernel
theorem dL_law_852 : decode cL_law 852 = .ok (.iload_n 3, 1) := by decide +kernel
theorem dL_law_853 : decode cL_law 853 = .ok (.iconst 1, 1) := by decide +kernel
theorem dL_law_854 : decode cL_law 854 = .ok (.iadd, 1) := by decide +kernel
theorem dL_law_855 : decode cL_law 855 = .ok (.iaload, 1) := by decide +kernel
theorem dL_law_856 : decode cL_law 856 = .ok (.aload_n 0, 1) := by decide +kernel
theorem dL_law_857 : decode cL_law 857 = .ok (.iload_n 3, 1) := by decide +kernel
theorem dL_law_858 : decode cL_law 858 = .ok (.iconst 2, 1) := by decide +kernel
theorem dL_law_859 : decode cL_law 859 = .ok (.iadd, 1) := by decide +kernel
theorem dL_law_860 : decode cL_law 860 = .ok (.iaload, 1) := by decide +kernel
theorem dL_law_861 : decode cL_law 861 = .ok (.aload_n 0, 1) := by decide +kernel
theorem dL_law_862 : decode cL_law 862 = .ok (.iload_n 3, 1) := by decide +kernel
theorem dL_law_863 : decode cL_law 863 = .ok (.iconst 3, 1) := by decide +kernel
theorem dL_law_864 : decode cL_law 864 = .ok (.iadd, 1) := by decide +kernel
theorem dL_law_865 : decode cL_law 865 = .ok (.iaload, 1) := by decide +kernel
theorem dL_law_866 : decode cL_law 866 = .ok (.invokevirtual 102, 3) := by decide +kernel
theorem dL_law_869 : decode cL_law 869 = .ok (.lcmp, 1) := by decide +kernel
theorem dL_law_870 : decode cL_law 870 = .ok (.ifCond .eq 457, 3) := by decide +kernel
theorem dL_law_873 : decode cL_law 873 = .ok (.iconst 0, 1) := by decide +kernel
theorem dL_law_874 : decode cL_law 874 = .ok (.ireturn, 1) := by decide +kernel
theorem dL_law_875 : decode cL_law 875 = .ok (.aload_n 1, 1) := by decide +kernel
theorem dL_law_876 : decode cL_law 876 = .ok (.aload_n 0, 1) := by decide +kernel
theorem dL_law_877 : decode cL_law 877 = .ok (.iload_n 3, 1) := by decide +kernel
theorem dL_law_878 : decode cL_law 878 = .ok (.iconst 1, 1) := by decide +kernel
theorem dL_law_879 : decode cL_law 879 = .ok (.iadd, 1) := by decide +kernel
theorem dL_law_880 : decode cL_law 880 = .ok (.iaload, 1) := by decide +kernel
theorem dL_law_881 : decode cL_law 881 = .ok (.aload_n 0, 1) := by decide +kernel
theorem dL_law_882 : decode cL_law 882 = .ok (.iload_n 3, 1) := by decide +kernel
theorem dL_law_883 : decode cL_law 883 = .ok (.iconst 2, 1) := by decide +kernel
theorem dL_law_884 : decode cL_law 884 = .ok (.iadd, 1) := by decide +kernel
theorem dL_law_885 : decode cL_law 885 = .ok (.iaload, 1) := by decide +kernel
theorem dL_law_886 : decode cL_law 886 = .ok (.aload_n 0, 1) := by decide +kernel
theorem dL_law_887 : decode cL_law 887 = .ok (.iload_n 3, 1) := by decide +kernel
theorem dL_law_888 : decode cL_law 888 = .ok (.iconst 3, 1) := by decide +kernel
theorem dL_law_889 : decode cL_law 889 = .ok (.iadd, 1) := by decide +kernel
theorem dL_law_890 : decode cL_law 890 = .ok (.iaload, 1) := by decide +kernel
theorem dL_law_891 : decode cL_law 891 = .ok (.invokevirtual 103, 3) := by decide +kernel
theorem dL_law_894 : decode cL_law 894 = .ok (.aload_n 2, 1) := by decide +kernel
theorem dL_law_895 : decode cL_law 895 = .ok (.aload_n 0, 1) := by decide +kernel
theorem dL_law_896 : decode cL_law 896 = .ok (.iload_n 3, 1) := by decide +kernel
theorem dL_law_897 : decode cL_law 897 = .ok (.iconst 1, 1) := by decide +kernel
theorem dL_law_898 : decode cL_law 898 = .ok (.iadd, 1) := by decide +kernel
theorem dL_law_899 : decode cL_law 899 = .ok (.iaload, 1) := by decide +kernel
theorem dL_law_900 : decode cL_law 900 = .ok (.aload_n 0, 1) := by decide +kernel
theorem dL_law_901 : decode cL_law 901 = .ok (.iload_n 3, 1) := by decide +kernel
theorem dL_law_902 : decode cL_law 902 = .ok (.iconst 2, 1) := by decide +kernel
theorem dL_law_903 : decode cL_law 903 = .ok (.iadd, 1) := by decide +kernel
theorem dL_law_904 : decode cL_law 904 = .ok (.iaload, 1) := by decide +kernel
theorem dL_law_905 : decode cL_law 905 = .ok (.aload_n 0, 1) := by decide +kernel
theorem dL_law_906 : decode cL_law 906 = .ok (.iload_n 3, 1) := by decide +kernel
theorem dL_law_907 : decode cL_law 907 = .ok (.iconst 3, 1) := by decide +kernel
theorem dL_law_908 : decode cL_law 908 = .ok (.iadd, 1) := by decide +kernel
theorem dL_law_909 : decode cL_law 909 = .ok (.iaload, 1) := by decide +kernel
theorem dL_law_910 : decode cL_law 910 = .ok (.invokevirtual 106, 3) := by decide +kernel
theorem dL_law_913 : decode cL_law 913 = .ok (.lcmp, 1) := by decide +kernel
theorem dL_law_914 : decode cL_law 914 = .ok (.ifCond .eq 413, 3) := by decide +kernel
theorem dL_law_917 : decode cL_law 917 = .ok (.iconst 0, 1) := by decide +kernel
theorem dL_law_918 : decode cL_law 918 = .ok (.ireturn, 1) := by decide +kernel
theorem dL_law_919 : decode cL_law 919 = .ok (.aload_n 1, 1) := by decide +kernel
theorem dL_law_920 : decode cL_law 920 = .ok (.aload_n 0, 1) := by decide +kernel
theorem dL_law_921 : decode cL_law 921 = .ok (.iload_n 3, 1) := by decide +kernel
theorem dL_law_922 : decode cL_law 922 = .ok (.iconst 1, 1) := by decide +kernel
theorem dL_law_923 : decode cL_law 923 = .ok (.iadd, 1) := by decide +kernel
theorem dL_law_924 : decode cL_law 924 = .ok (.iaload, 1) := by decide +kernel
theorem dL_law_925 : decode cL_law 925 = .ok (.aload_n 0, 1) := by decide +kernel
theorem dL_law_926 : decode cL_law 926 = .ok (.iload_n 3, 1) := by decide +kernel
theorem dL_law_927 : decode cL_law 927 = .ok (.iconst 2, 1) := by decide +kernel
theorem dL_law_928 : decode cL_law 928 = .ok (.iadd, 1) := by decide +kernel
theorem dL_law_929 : decode cL_law 929 = .ok (.iaload, 1) := by decide +kernel
theorem dL_law_930 : decode cL_law 930 = .ok (.aload_n 0, 1) := by decide +kernel
theorem dL_law_931 : decode cL_law 931 = .ok (.iload_n 3, 1) := by decide +kernel
theorem dL_law_932 : decode cL_law 932 = .ok (.iconst 3, 1) := by decide +kernel
theorem dL_law_933 : decode cL_law 933 = .ok (.iadd, 1) := by decide +kernel
theorem dL_law_934 : decode cL_law 934 = .ok (.iaload, 1) := by decide +kernel
theorem dL_law_935 : decode cL_law 935 = .ok (.invokevirtual 107, 3) := by decide +kernel
theorem dL_law_938 : decode cL_law 938 = .ok (.aload_n 2, 1) := by decide +kernel
theorem dL_law_939 : decode cL_law 939 = .ok (.aload_n 0, 1) := by decide +kernel
theorem dL_law_940 : decode cL_law 940 = .ok (.iload_n 3, 1) := by decide +kernel
theorem dL_law_941 : decode cL_law 941 = .ok (.iconst 1, 1) := by decide +kernel
theorem dL_law_942 : decode cL_law 942 = .ok (.iadd, 1) := by decide +kernel
theorem dL_law_943 : decode cL_law 943 = .ok (.iaload, 1) := by decide +kernel
theorem dL_law_944 : decode cL_law 944 = .ok (.aload_n 0, 1) := by decide +kernel
theorem dL_law_945 : decode cL_law 945 = .ok (.iload_n 3, 1) := by decide +kernel
theorem dL_law_946 : decode cL_law 946 = .ok (.iconst 2, 1) := by decide +kernel
theorem dL_law_947 : decode cL_law 947 = .ok (.iadd, 1) := by decide +kernel
theorem dL_law_948 : decode cL_law 948 = .ok (.iaload, 1) := by decide +kernel
theorem dL_law_949 : decode cL_law 949 = .ok (.aload_n 0, 1) := by decide +kernel
theorem dL_law_950 : decode cL_law 950 = .ok (.iload_n 3, 1) := by decide +kernel
theorem dL_law_951 : decode cL_law 951 = .ok (.iconst 3, 1) := by decide +kernel
theorem dL_law_952 : decode cL_law 952 = .ok (.iadd, 1) := by decide +kernel
theorem dL_law_953 : decode cL_law 953 = .ok (.iaload, 1) := by decide +kernel
theorem dL_law_954 : decode cL_law 954 = .ok (.invokevirtual 110, 3) := by decide +kernel
theorem dL_law_957 : decode cL_law 957 = .ok (.lcmp, 1) := by decide +kernel
theorem dL_law_958 : decode cL_law 958 = .ok (.ifCond .eq 369, 3) := by decide +kernel
theorem dL_law_961 : decode cL_law 961 = .ok (.iconst 0, 1) := by decide +kernel
theorem dL_law_962 : decode cL_law 962 = .ok (.ireturn, 1) := by decide +kernel
theorem dL_law_963 : decode cL_law 963 = .ok (.aload_n 1, 1) := by decide +kernel
theorem dL_law_964 : decode cL_law 964 = .ok (.aload_n 0, 1) := by decide +kernel
theorem dL_law_965 : decode cL_law 965 = .ok (.iload_n 3, 1) := by decide +kernel
theorem dL_law_966 : decode cL_law 966 = .ok (.iconst 1, 1) := by decide +kernel
theorem dL_law_967 : decode cL_law 967 = .ok (.iadd, 1) := by decide +kernel
theorem dL_law_968 : decode cL_law 968 = .ok (.iaload, 1) := by decide +kernel
theorem dL_law_969 : decode cL_law 969 = .ok (.aload_n 0, 1) := by decide +kernel
theorem dL_law_970 : decode cL_law 970 = .ok (.iload_n 3, 1) := by decide +kernel
theorem dL_law_971 : decode cL_law 971 = .ok (.iconst 2, 1) := by decide +kernel
theorem dL_law_972 : decode cL_law 972 = .ok (.iadd, 1) := by decide +kernel
theorem dL_law_973 : decode cL_law 973 = .ok (.iaload, 1) := by decide +kernel
theorem dL_law_974 : decode cL_law 974 = .ok (.aload_n 0, 1) := by decide +kernel
theorem dL_law_975 : decode cL_law 975 = .ok (.iload_n 3, 1) := by decide +kernel
theorem dL_law_976 : decode cL_law 976 = .ok (.iconst 3, 1) := by decide +kernel
theorem dL_law_977 : decode cL_law 977 = .ok (.iadd, 1) := by decide +kernel
theorem dL_law_978 : decode cL_law 978 = .ok (.iaload, 1) := by decide +kernel
theorem dL_law_979 : decode cL_law 979 = .ok (.invokevirtual 111, 3) := by decide +kernel
theorem dL_law_982 : decode cL_law 982 = .ok (.aload_n 2, 1) := by decide +kernel
theorem dL_law_983 : decode cL_law 983 = .ok (.aload_n 0, 1) := by decide +kernel
theorem dL_law_984 : decode cL_law 984 = .ok (.iload_n 3, 1) := by decide +kernel
theorem dL_law_985 : decode cL_law 985 = .ok (.iconst 1, 1) := by decide +kernel
theorem dL_law_986 : decode cL_law 986 = .ok (.iadd, 1) := by decide +kernel
theorem dL_law_987 : decode cL_law 987 = .ok (.iaload, 1) := by decide +kernel
theorem dL_law_988 : decode cL_law 988 = .ok (.aload_n 0, 1) := by decide +kernel
theorem dL_law_989 : decode cL_law 989 = .ok (.iload_n 3, 1) := by decide +kernel
theorem dL_law_990 : decode cL_law 990 = .ok (.iconst 2, 1) := by decide +kernel
theorem dL_law_991 : decode cL_law 991 = .ok (.iadd, 1) := by decide +kernel
theorem dL_law_992 : decode cL_law 992 = .ok (.iaload, 1) := by decide +kernel
theorem dL_law_993 : decode cL_law 993 = .ok (.aload_n 0, 1) := by decide +kernel
theorem dL_law_994 : decode cL_law 994 = .ok (.iload_n 3, 1) := by decide +kernel
theorem dL_law_995 : decode cL_law 995 = .ok (.iconst 3, 1) := by decide +kernel
theorem dL_law_996 : decode cL_law 996 = .ok (.iadd, 1) := by decide +kernel
theorem dL_law_997 : decode cL_law 997 = .ok (.iaload, 1) := by decide +kernel
theorem dL_law_998 : decode cL_law 998 = .ok (.invokevirtual 114, 3) := by decide +kernel
theorem dL_law_1001 : decode cL_law 1001 = .ok (.lcmp, 1) := by decide +kernel
theorem dL_law_1002 : decode cL_law 1002 = .ok (.ifCond .eq 325, 3) := by decide +kernel
theorem dL_law_1005 : decode cL_law 1005 = .ok (.iconst 0, 1) := by decide +kernel
theorem dL_law_1006 : decode cL_law 1006 = .ok (.ireturn, 1) := by decide +kernel
theorem dL_law_1007 : decode cL_law 1007 = .ok (.aload_n 1, 1) := by decide +kernel
theorem dL_law_1008 : decode cL_law 1008 = .ok (.aload_n 0, 1) := by decide +kernel
theorem dL_law_1009 : decode cL_law 1009 = .ok (.iload_n 3, 1) := by decide +kernel
theorem dL_law_1010 : decode cL_law 1010 = .ok (.iconst 1, 1) := by decide +kernel
theorem dL_law_1011 : decode cL_law 1011 = .ok (.iadd, 1) := by decide +kernel
theorem dL_law_1012 : decode cL_law 1012 = .ok (.iaload, 1) := by decide +kernel
theorem dL_law_1013 : decode cL_law 1013 = .ok (.aload_n 0, 1) := by decide +kernel
theorem dL_law_1014 : decode cL_law 1014 = .ok (.iload_n 3, 1) := by decide +kernel
theorem dL_law_1015 : decode cL_law 1015 = .ok (.iconst 2, 1) := by decide +kernel
theorem dL_law_1016 : decode cL_law 1016 = .ok (.iadd, 1) := by decide +kernel
theorem dL_law_1017 : decode cL_law 1017 = .ok (.iaload, 1) := by decide +kernel
theorem dL_law_1018 : decode cL_law 1018 = .ok (.invokevirtual 115, 3) := by decide +kernel
theorem dL_law_1021 : decode cL_law 1021 = .ok (.aload_n 2, 1) := by decide +kernel
theorem dL_law_1022 : decode cL_law 1022 = .ok (.aload_n 0, 1) := by decide +kernel
theorem dL_law_1023 : decode cL_law 1023 = .ok (.iload_n 3, 1) := by decide +kernel
theorem dL_law_1024 : decode cL_law 1024 = .ok (.iconst 1, 1) := by decide +kernel
theorem dL_law_1025 : decode cL_law 1025 = .ok (.iadd, 1) := by decide +kernel
theorem dL_law_1026 : decode cL_law 1026 = .ok (.iaload, 1) := by decide +kernel
theorem dL_law_1027 : decode cL_law 1027 = .ok (.aload_n 0, 1) := by decide +kernel
theorem dL_law_1028 : decode cL_law 1028 = .ok (.iload_n 3, 1) := by decide +kernel
theorem dL_law_1029 : decode cL_law 1029 = .ok (.iconst 2, 1) := by decide +kernel
theorem dL_law_1030 : decode cL_law 1030 = .ok (.iadd, 1) := by decide +kernel
theorem dL_law_1031 : decode cL_law 1031 = .ok (.iaload, 1) := by decide +kernel
theorem dL_law_1032 : decode cL_law 1032 = .ok (.invokevirtual 118, 3) := by decide +kernel
theorem dL_law_1035 : decode cL_law 1035 = .ok (.lcmp, 1) := by decide +kernel
theorem dL_law_1036 : decode cL_law 1036 = .ok (.ifCond .eq 291, 3) := by decide +kernel
theorem dL_law_1039 : decode cL_law 1039 = .ok (.iconst 0, 1) := by decide +kernel
theorem dL_law_1040 : decode cL_law 1040 = .ok (.ireturn, 1) := by decide +kernel
theorem dL_law_1041 : decode cL_law 1041 = .ok (.aload_n 1, 1) := by decide +kernel
theorem dL_law_1042 : decode cL_law 1042 = .ok (.aload_n 0, 1) := by decide +kernel
theorem dL_law_1043 : decode cL_law 1043 = .ok (.iload_n 3, 1) := by decide +kernel
theorem dL_law_1044 : decode cL_law 1044 = .ok (.iconst 1, 1) := by decide +kernel
theorem dL_law_1045 : decode cL_law 1045 = .ok (.iadd, 1) := by decide +kernel
theorem dL_law_1046 : decode cL_law 1046 = .ok (.iaload, 1) := by decide +kernel
theorem dL_law_1047 : decode cL_law 1047 = .ok (.aload_n 0, 1) := by decide +kernel
theorem dL_law_1048 : decode cL_law 1048 = .ok (.iload_n 3, 1) := by decide +kernel
theorem dL_law_1049 : decode cL_law 1049 = .ok (.iconst 2, 1) := by decide +kernel
theorem dL_law_1050 : decode cL_law 1050 = .ok (.iadd, 1) := by decide +kernel
theorem dL_law_1051 : decode cL_law 1051 = .ok (.iaload, 1) := by decide +kernel
theorem dL_law_1052 : decode cL_law 1052 = .ok (.invokevirtual 119, 3) := by decide +kernel
theorem dL_law_1055 : decode cL_law 1055 = .ok (.aload_n 2, 1) := by decide +kernel
theorem dL_law_1056 : decode cL_law 1056 = .ok (.aload_n 0, 1) := by decide +kernel
theorem dL_law_1057 : decode cL_law 1057 = .ok (.iload_n 3, 1) := by decide +kernel
theorem dL_law_1058 : decode cL_law 1058 = .ok (.iconst 1, 1) := by decide +kernel
theorem dL_law_1059 : decode cL_law 1059 = .ok (.iadd, 1) := by decide +kernel
theorem dL_law_1060 : decode cL_law 1060 = .ok (.iaload, 1) := by decide +kernel
theorem dL_law_1061 : decode cL_law 1061 = .ok (.aload_n 0, 1) := by decide +kernel
theorem dL_law_1062 : decode cL_law 1062 = .ok (.iload_n 3, 1) := by decide +kernel
theorem dL_law_1063 : decode cL_law 1063 = .ok (.iconst 2, 1) := by decide +kernel
theorem dL_law_1064 : decode cL_law 1064 = .ok (.iadd, 1) := by decide +kernel
theorem dL_law_1065 : decode cL_law 1065 = .ok (.iaload, 1) := by decide +kernel
theorem dL_law_1066 : decode cL_law 1066 = .ok (.invokevirtual 122, 3) := by decide +kernel
theorem dL_law_1069 : decode cL_law 1069 = .ok (.lcmp, 1) := by decide +kernel
theorem dL_law_1070 : decode cL_law 1070 = .ok (.ifCond .eq 257, 3) := by decide +kernel
theorem dL_law_1073 : decode cL_law 1073 = .ok (.iconst 0, 1) := by decide +kernel
theorem dL_law_1074 : decode cL_law 1074 = .ok (.ireturn, 1) := by decide +kernel
theorem dL_law_1075 : decode cL_law 1075 = .ok (.aload_n 1, 1) := by decide +kernel
theorem dL_law_1076 : decode cL_law 1076 = .ok (.aload_n 0, 1) := by decide +kernel
theorem dL_law_1077 : decode cL_law 1077 = .ok (.iload_n 3, 1) := by decide +kernel
theorem dL_law_1078 : decode cL_law 1078 = .ok (.iconst 1, 1) := by decide +kernel
theorem dL_law_1079 : decode cL_law 1079 = .ok (.iadd, 1) := by decide +kernel
theorem dL_law_1080 : decode cL_law 1080 = .ok (.iaload, 1) := by decide +kernel
theorem dL_law_1081 : decode cL_law 1081 = .ok (.aload_n 0, 1) := by decide +kernel
theorem dL_law_1082 : decode cL_law 1082 = .ok (.iload_n 3, 1) := by decide +kernel
theorem dL_law_1083 : decode cL_law 1083 = .ok (.iconst 2, 1) := by decide +kernel
theorem dL_law_1084 : decode cL_law 1084 = .ok (.iadd, 1) := by decide +kernel
theorem dL_law_1085 : decode cL_law 1085 = .ok (.iaload, 1) := by decide +kernel
theorem dL_law_1086 : decode cL_law 1086 = .ok (.aload_n 0, 1) := by decide +kernel
theorem dL_law_1087 : decode cL_law 1087 = .ok (.iload_n 3, 1) := by decide +kernel
theorem dL_law_1088 : decode cL_law 1088 = .ok (.iconst 3, 1) := by decide +kernel
theorem dL_law_1089 : decode cL_law 1089 = .ok (.iadd, 1) := by decide +kernel
theorem dL_law_1090 : decode cL_law 1090 = .ok (.iaload, 1) := by decide +kernel
theorem dL_law_1091 : decode cL_law 1091 = .ok (.aload_n 0, 1) := by decide +kernel
theorem dL_law_1092 : decode cL_law 1092 = .ok (.iload_n 3, 1) := by decide +kernel
theorem dL_law_1093 : decode cL_law 1093 = .ok (.iconst 4, 1) := by decide +kernel
theorem dL_law_1094 : decode cL_law 1094 = .ok (.iadd, 1) := by decide +kernel
theorem dL_law_1095 : decode cL_law 1095 = .ok (.iaload, 1) := by decide +kernel
theorem dL_law_1096 : decode cL_law 1096 = .ok (.invokevirtual 123, 3) := by decide +kernel
theorem dL_law_1099 : decode cL_law 1099 = .ok (.aload_n 2, 1) := by decide +kernel
theorem dL_law_1100 : decode cL_law 1100 = .ok (.aload_n 0, 1) := by decide +kernel
theorem dL_law_1101 : decode cL_law 1101 = .ok (.iload_n 3, 1) := by decide +kernel
theorem dL_law_1102 : decode cL_law 1102 = .ok (.iconst 1, 1) := by decide +kernel
theorem dL_law_1103 : decode cL_law 1103 = .ok (.iadd, 1) := by decide +kernel
theorem dL_law_1104 : decode cL_law 1104 = .ok (.iaload, 1) := by decide +kernel
theorem dL_law_1105 : decode cL_law 1105 = .ok (.aload_n 0, 1) := by decide +kernel
theorem dL_law_1106 : decode cL_law 1106 = .ok (.iload_n 3, 1) := by decide +kernel
theorem dL_law_1107 : decode cL_law 1107 = .ok (.iconst 2, 1) := by decide +kernel
theorem dL_law_1108 : decode cL_law 1108 = .ok (.iadd, 1) := by decide +kernel
theorem dL_law_1109 : decode cL_law 1109 = .ok (.iaload, 1) := by decide +kernel
theorem dL_law_1110 : decode cL_law 1110 = .ok (.aload_n 0, 1) := by decide +kernel
theorem dL_law_1111 : decode cL_law 1111 = .ok (.iload_n 3, 1) := by decide +kernel
theorem dL_law_1112 : decode cL_law 1112 = .ok (.iconst 3, 1) := by decide +kernel
theorem dL_law_1113 : decode cL_law 1113 = .ok (.iadd, 1) := by decide +kernel
theorem dL_law_1114 : decode cL_law 1114 = .ok (.iaload, 1) := by decide +kernel
theorem dL_law_1115 : decode cL_law 1115 = .ok (.aload_n 0, 1) := by decide +kernel
theorem dL_law_1116 : decode cL_law 1116 = .ok (.iload_n 3, 1) := by decide +kernel
theorem dL_law_1117 : decode cL_law 1117 = .ok (.iconst 4, 1) := by decide +kernel
theorem dL_law_1118 : decode cL_law 1118 = .ok (.iadd, 1) := by decide +kernel
theorem dL_law_1119 : decode cL_law 1119 = .ok (.iaload, 1) := by decide +kernel
theorem dL_law_1120 : decode cL_law 1120 = .ok (.invokevirtual 127, 3) := by decide +kernel
theorem dL_law_1123 : decode cL_law 1123 = .ok (.lcmp, 1) := by decide +kernel
theorem dL_law_1124 : decode cL_law 1124 = .ok (.ifCond .eq 203, 3) := by decide +kernel
theorem dL_law_1127 : decode cL_law 1127 = .ok (.iconst 0, 1) := by decide +kernel
theorem dL_law_1128 : decode cL_law 1128 = .ok (.ireturn, 1) := by decide +kernel
theorem dL_law_1129 : decode cL_law 1129 = .ok (.aload_n 1, 1) := by decide +kernel
theorem dL_law_1130 : decode cL_law 1130 = .ok (.aload_n 0, 1) := by decide +kernel
theorem dL_law_1131 : decode cL_law 1131 = .ok (.iload_n 3, 1) := by decide +kernel
theorem dL_law_1132 : decode cL_law 1132 = .ok (.iconst 1, 1) := by decide +kernel
theorem dL_law_1133 : decode cL_law 1133 = .ok (.iadd, 1) := by decide +kernel
theorem dL_law_1134 : decode cL_law 1134 = .ok (.iaload, 1) := by decide +kernel
theorem dL_law_1135 : decode cL_law 1135 = .ok (.invokevirtual 128, 3) := by decide +kernel
theorem dL_law_1138 : decode cL_law 1138 = .ok (.aload_n 2, 1) := by decide +kernel
theorem dL_law_1139 : decode cL_law 1139 = .ok (.aload_n 0, 1) := by decide +kernel
theorem dL_law_1140 : decode cL_law 1140 = .ok (.iload_n 3, 1) := by decide +kernel
theorem dL_law_1141 : decode cL_law 1141 = .ok (.iconst 1, 1) := by decide +kernel
theorem dL_law_1142 : decode cL_law 1142 = .ok (.iadd, 1) := by decide +kernel
theorem dL_law_1143 : decode cL_law 1143 = .ok (.iaload, 1) := by decide +kernel
theorem dL_law_1144 : decode cL_law 1144 = .ok (.invokevirtual 131, 3) := by decide +kernel
theorem dL_law_1147 : decode cL_law 1147 = .ok (.if_icmp .eq 180, 3) := by decide +kernel
theorem dL_law_1150 : decode cL_law 1150 = .ok (.iconst 0, 1) := by decide +kernel
theorem dL_law_1151 : decode cL_law 1151 = .ok (.ireturn, 1) := by decide +kernel
theorem dL_law_1152 : decode cL_law 1152 = .ok (.aload_n 1, 1) := by decide +kernel
theorem dL_law_1153 : decode cL_law 1153 = .ok (.aload_n 0, 1) := by decide +kernel
theorem dL_law_1154 : decode cL_law 1154 = .ok (.iload_n 3, 1) := by decide +kernel
theorem dL_law_1155 : decode cL_law 1155 = .ok (.iconst 1, 1) := by decide +kernel
theorem dL_law_1156 : decode cL_law 1156 = .ok (.iadd, 1) := by decide +kernel
theorem dL_law_1157 : decode cL_law 1157 = .ok (.iaload, 1) := by decide +kernel
theorem dL_law_1158 : decode cL_law 1158 = .ok (.invokevirtual 132, 3) := by decide +kernel
theorem dL_law_1161 : decode cL_law 1161 = .ok (.aload_n 2, 1) := by decide +kernel
theorem dL_law_1162 : decode cL_law 1162 = .ok (.aload_n 0, 1) := by decide +kernel
theorem dL_law_1163 : decode cL_law 1163 = .ok (.iload_n 3, 1) := by decide +kernel
theorem dL_law_1164 : decode cL_law 1164 = .ok (.iconst 1, 1) := by decide +kernel
theorem dL_law_1165 : decode cL_law 1165 = .ok (.iadd, 1) := by decide +kernel
theorem dL_law_1166 : decode cL_law 1166 = .ok (.iaload, 1) := by decide +kernel
theorem dL_law_1167 : decode cL_law 1167 = .ok (.invokevirtual 135, 3) := by decide +kernel
theorem dL_law_1170 : decode cL_law 1170 = .ok (.if_icmp .eq 157, 3) := by decide +kernel
theorem dL_law_1173 : decode cL_law 1173 = .ok (.iconst 0, 1) := by decide +kernel
theorem dL_law_1174 : decode cL_law 1174 = .ok (.ireturn, 1) := by decide +kernel
theorem dL_law_1175 : decode cL_law 1175 = .ok (.aload_n 1, 1) := by decide +kernel
theorem dL_law_1176 : decode cL_law 1176 = .ok (.aload_n 0, 1) := by decide +kernel
theorem dL_law_1177 : decode cL_law 1177 = .ok (.iload_n 3, 1) := by decide +kernel
theorem dL_law_1178 : decode cL_law 1178 = .ok (.iconst 1, 1) := by decide +kernel
theorem dL_law_1179 : decode cL_law 1179 = .ok (.iadd, 1) := by decide +kernel
theorem dL_law_1180 : decode cL_law 1180 = .ok (.iaload, 1) := by decide +kernel
theorem dL_law_1181 : decode cL_law 1181 = .ok (.invokevirtual 136, 3) := by decide +kernel
theorem dL_law_1184 : decode cL_law 1184 = .ok (.aload_n 2, 1) := by decide +kernel
theorem dL_law_1185 : decode cL_law 1185 = .ok (.aload_n 0, 1) := by decide +kernel
theorem dL_law_1186 : decode cL_law 1186 = .ok (.iload_n 3, 1) := by decide +kernel
theorem dL_law_1187 : decode cL_law 1187 = .ok (.iconst 1, 1) := by decide +kernel
theorem dL_law_1188 : decode cL_law 1188 = .ok (.iadd, 1) := by decide +kernel
theorem dL_law_1189 : decode cL_law 1189 = .ok (.iaload, 1) := by decide +kernel
theorem dL_law_1190 : decode cL_law 1190 = .ok (.invokevirtual 139, 3) := by decide +kernel
theorem dL_law_1193 : decode cL_law 1193 = .ok (.if_icmp .eq 134, 3) := by decide +kernel
theorem dL_law_1196 : decode cL_law 1196 = .ok (.iconst 0, 1) := by decide +kernel
theorem dL_law_1197 : decode cL_law 1197 = .ok (.ireturn, 1) := by decide +kernel
theorem dL_law_1198 : decode cL_law 1198 = .ok (.aload_n 1, 1) := by decide +kernel
theorem dL_law_1199 : decode cL_law 1199 = .ok (.aload_n 0, 1) := by decide +kernel
theorem dL_law_1200 : decode cL_law 1200 = .ok (.iload_n 3, 1) := by decide +kernel
theorem dL_law_1201 : decode cL_law 1201 = .ok (.iconst 1, 1) := by decide +kernel
theorem dL_law_1202 : decode cL_law 1202 = .ok (.iadd, 1) := by decide +kernel
theorem dL_law_1203 : decode cL_law 1203 = .ok (.iaload, 1) := by decide +kernel
theorem dL_law_1204 : decode cL_law 1204 = .ok (.aload_n 0, 1) := by decide +kernel
theorem dL_law_1205 : decode cL_law 1205 = .ok (.iload_n 3, 1) := by decide +kernel
theorem dL_law_1206 : decode cL_law 1206 = .ok (.iconst 2, 1) := by decide +kernel
theorem dL_law_1207 : decode cL_law 1207 = .ok (.iadd, 1) := by decide +kernel
theorem dL_law_1208 : decode cL_law 1208 = .ok (.iaload, 1) := by decide +kernel
theorem dL_law_1209 : decode cL_law 1209 = .ok (.invokevirtual 140, 3) := by decide +kernel
theorem dL_law_1212 : decode cL_law 1212 = .ok (.aload_n 2, 1) := by decide +kernel
theorem dL_law_1213 : decode cL_law 1213 = .ok (.aload_n 0, 1) := by decide +kernel
theorem dL_law_1214 : decode cL_law 1214 = .ok (.iload_n 3, 1) := by decide +kernel
theorem dL_law_1215 : decode cL_law 1215 = .ok (.iconst 1, 1) := by decide +kernel
theorem dL_law_1216 : decode cL_law 1216 = .ok (.iadd, 1) := by decide +kernel
theorem dL_law_1217 : decode cL_law 1217 = .ok (.iaload, 1) := by decide +kernel
theorem dL_law_1218 : decode cL_law 1218 = .ok (.aload_n 0, 1) := by decide +kernel
theorem dL_law_1219 : decode cL_law 1219 = .ok (.iload_n 3, 1) := by decide +kernel
theorem dL_law_1220 : decode cL_law 1220 = .ok (.iconst 2, 1) := by decide +kernel
theorem dL_law_1221 : decode cL_law 1221 = .ok (.iadd, 1) := by decide +kernel
theorem dL_law_1222 : decode cL_law 1222 = .ok (.iaload, 1) := by decide +kernel
theorem dL_law_1223 : decode cL_law 1223 = .ok (.invokevirtual 144, 3) := by decide +kernel
theorem dL_law_1226 : decode cL_law 1226 = .ok (.if_icmp .eq 101, 3) := by decide +kernel
theorem dL_law_1229 : decode cL_law 1229 = .ok (.iconst 0, 1) := by decide +kernel
theorem dL_law_1230 : decode cL_law 1230 = .ok (.ireturn, 1) := by decide +kernel
theorem dL_law_1231 : decode cL_law 1231 = .ok (.aload_n 1, 1) := by decide +kernel
theorem dL_law_1232 : decode cL_law 1232 = .ok (.aload_n 0, 1) := by decide +kernel
theorem dL_law_1233 : decode cL_law 1233 = .ok (.iload_n 3, 1) := by decide +kernel
theorem dL_law_1234 : decode cL_law 1234 = .ok (.iconst 1, 1) := by decide +kernel
theorem dL_law_1235 : decode cL_law 1235 = .ok (.iadd, 1) := by decide +kernel
theorem dL_law_1236 : decode cL_law 1236 = .ok (.iaload, 1) := by decide +kernel
theorem dL_law_1237 : decode cL_law 1237 = .ok (.aload_n 0, 1) := by decide +kernel
theorem dL_law_1238 : decode cL_law 1238 = .ok (.iload_n 3, 1) := by decide +kernel
theorem dL_law_1239 : decode cL_law 1239 = .ok (.iconst 2, 1) := by decide +kernel
theorem dL_law_1240 : decode cL_law 1240 = .ok (.iadd, 1) := by decide +kernel
theorem dL_law_1241 : decode cL_law 1241 = .ok (.iaload, 1) := by decide +kernel
theorem dL_law_1242 : decode cL_law 1242 = .ok (.invokevirtual 145, 3) := by decide +kernel
theorem dL_law_1245 : decode cL_law 1245 = .ok (.aload_n 2, 1) := by decide +kernel
theorem dL_law_1246 : decode cL_law 1246 = .ok (.aload_n 0, 1) := by decide +kernel
theorem dL_law_1247 : decode cL_law 1247 = .ok (.iload_n 3, 1) := by decide +kernel
theorem dL_law_1248 : decode cL_law 1248 = .ok (.iconst 1, 1) := by decide +kernel
theorem dL_law_1249 : decode cL_law 1249 = .ok (.iadd, 1) := by decide +kernel
theorem dL_law_1250 : decode cL_law 1250 = .ok (.iaload, 1) := by decide +kernel
theorem dL_law_1251 : decode cL_law 1251 = .ok (.aload_n 0, 1) := by decide +kernel
theorem dL_law_1252 : decode cL_law 1252 = .ok (.iload_n 3, 1) := by decide +kernel
theorem dL_law_1253 : decode cL_law 1253 = .ok (.iconst 2, 1) := by decide +kernel
theorem dL_law_1254 : decode cL_law 1254 = .ok (.iadd, 1) := by decide +kernel
theorem dL_law_1255 : decode cL_law 1255 = .ok (.iaload, 1) := by decide +kernel
theorem dL_law_1256 : decode cL_law 1256 = .ok (.invokevirtual 148, 3) := by decide +kernel
theorem dL_law_1259 : decode cL_law 1259 = .ok (.if_icmp .eq 68, 3) := by decide +kernel
theorem dL_law_1262 : decode cL_law 1262 = .ok (.iconst 0, 1) := by decide +kernel
theorem dL_law_1263 : decode cL_law 1263 = .ok (.ireturn, 1) := by decide +kernel
theorem dL_law_1264 : decode cL_law 1264 = .ok (.aload_n 1, 1) := by decide +kernel
theorem dL_law_1265 : decode cL_law 1265 = .ok (.aload_n 0, 1) := by decide +kernel
theorem dL_law_1266 : decode cL_law 1266 = .ok (.iload_n 3, 1) := by decide +kernel
theorem dL_law_1267 : decode cL_law 1267 = .ok (.iconst 1, 1) := by decide +kernel
theorem dL_law_1268 : decode cL_law 1268 = .ok (.iadd, 1) := by decide +kernel
theorem dL_law_1269 : decode cL_law 1269 = .ok (.iaload, 1) := by decide +kernel
theorem dL_law_1270 : decode cL_law 1270 = .ok (.aload_n 0, 1) := by decide +kernel
theorem dL_law_1271 : decode cL_law 1271 = .ok (.iload_n 3, 1) := by decide +kernel
theorem dL_law_1272 : decode cL_law 1272 = .ok (.iconst 2, 1) := by decide +kernel
theorem dL_law_1273 : decode cL_law 1273 = .ok (.iadd, 1) := by decide +kernel
theorem dL_law_1274 : decode cL_law 1274 = .ok (.iaload, 1) := by decide +kernel
theorem dL_law_1275 : decode cL_law 1275 = .ok (.i2l, 1) := by decide +kernel
theorem dL_law_1276 : decode cL_law 1276 = .ok (.bipush 32, 2) := by decide +kernel
theorem dL_law_1278 : decode cL_law 1278 = .ok (.lshl, 1) := by decide +kernel
theorem dL_law_1279 : decode cL_law 1279 = .ok (.aload_n 0, 1) := by decide +kernel
theorem dL_law_1280 : decode cL_law 1280 = .ok (.iload_n 3, 1) := by decide +kernel
theorem dL_law_1281 : decode cL_law 1281 = .ok (.iconst 3, 1) := by decide +kernel
theorem dL_law_1282 : decode cL_law 1282 = .ok (.iadd, 1) := by decide +kernel
theorem dL_law_1283 : decode cL_law 1283 = .ok (.iaload, 1) := by decide +kernel
theorem dL_law_1284 : decode cL_law 1284 = .ok (.i2l, 1) := by decide +kernel
theorem dL_law_1285 : decode cL_law 1285 = .ok (.ldc2_w 149, 3) := by decide +kernel
theorem dL_law_1288 : decode cL_law 1288 = .ok (.land, 1) := by decide +kernel
theorem dL_law_1289 : decode cL_law 1289 = .ok (.lor, 1) := by decide +kernel
theorem dL_law_1290 : decode cL_law 1290 = .ok (.invokevirtual 151, 3) := by decide +kernel
theorem dL_law_1293 : decode cL_law 1293 = .ok (.aload_n 2, 1) := by decide +kernel
theorem dL_law_1294 : decode cL_law 1294 = .ok (.aload_n 0, 1) := by decide +kernel
theorem dL_law_1295 : decode cL_law 1295 = .ok (.iload_n 3, 1) := by decide +kernel
theorem dL_law_1296 : decode cL_law 1296 = .ok (.iconst 1, 1) := by decide +kernel
theorem dL_law_1297 : decode cL_law 1297 = .ok (.iadd, 1) := by decide +kernel
theorem dL_law_1298 : decode cL_law 1298 = .ok (.iaload, 1) := by decide +kernel
theorem dL_law_1299 : decode cL_law 1299 = .ok (.aload_n 0, 1) := by decide +kernel
theorem dL_law_1300 : decode cL_law 1300 = .ok (.iload_n 3, 1) := by decide +kernel
theorem dL_law_1301 : decode cL_law 1301 = .ok (.iconst 2, 1) := by decide +kernel
theorem dL_law_1302 : decode cL_law 1302 = .ok (.iadd, 1) := by decide +kernel
theorem dL_law_1303 : decode cL_law 1303 = .ok (.iaload, 1) := by decide +kernel
theorem dL_law_1304 : decode cL_law 1304 = .ok (.i2l, 1) := by decide +kernel
theorem dL_law_1305 : decode cL_law 1305 = .ok (.bipush 32, 2) := by decide +kernel
theorem dL_law_1307 : decode cL_law 1307 = .ok (.lshl, 1) := by decide +kernel
theorem dL_law_1308 : decode cL_law 1308 = .ok (.aload_n 0, 1) := by decide +kernel
theorem dL_law_1309 : decode cL_law 1309 = .ok (.iload_n 3, 1) := by decide +kernel
theorem dL_law_1310 : decode cL_law 1310 = .ok (.iconst 3, 1) := by decide +kernel
theorem dL_law_1311 : decode cL_law 1311 = .ok (.iadd, 1) := by decide +kernel
theorem dL_law_1312 : decode cL_law 1312 = .ok (.iaload, 1) := by decide +kernel
theorem dL_law_1313 : decode cL_law 1313 = .ok (.i2l, 1) := by decide +kernel
theorem dL_law_1314 : decode cL_law 1314 = .ok (.ldc2_w 149, 3) := by decide +kernel
theorem dL_law_1317 : decode cL_law 1317 = .ok (.land, 1) := by decide +kernel
theorem dL_law_1318 : decode cL_law 1318 = .ok (.lor, 1) := by decide +kernel
theorem dL_law_1319 : decode cL_law 1319 = .ok (.invokevirtual 155, 3) := by decide +kernel
theorem dL_law_1322 : decode cL_law 1322 = .ok (.if_icmp .eq 5, 3) := by decide +kernel
theorem dL_law_1325 : decode cL_law 1325 = .ok (.iconst 0, 1) := by decide +kernel
theorem dL_law_1326 : decode cL_law 1326 = .ok (.ireturn, 1) := by decide +kernel
theorem dL_law_1327 : decode cL_law 1327 = .ok (.iinc 3 6, 3) := by decide +kernel
theorem dL_law_1330 : decode cL_law 1330 = .ok (.goto (-1302), 3) := by decide +kernel
theorem dL_law_1333 : decode cL_law 1333 = .ok (.iconst 1, 1) := by decide +kernel
theorem dL_law_1334 : decode cL_law 1334 = .ok (.ireturn, 1) := by decide +kernel
end
section
/-! ===== the state: int rows, long rows, by role; the world as a list of 48 cells ===== -/
abbrev St : Type := (Nat → Nat → Int32) × (Nat → Nat → Int64)
def sI (S : St) (r k : Nat) (v : Int32) : St := (va_up S.1 r (upd (S.1 r) k v), S.2)
def sJ (S : St) (r k : Nat) (v : Int64) : St := (S.1, va_up S.2 r (vp_updL (S.2 r) k v))
def sC (S : St) (r : Nat) (f : Nat → Int64) : St := (S.1, va_up S.2 r f)
def gd {β : Type} (b : Bool) (X : Option β) : Option β := bif b then X else none
def inb (i : Int32) (n : Nat) : Bool := !(decide (i < 0)) && decide (i.toNatClampNeg < n)
def bo {α β : Type} (o : Option α) (f : α → Option β) : Option β := match o with
  | none => none
  | some a => f a
def bw {α β : Type} (o : Option (α × St)) (f : α → St → Option β) : Option β := match o with
  | none => none
  | some a => f a.1 a.2
def b2i (b : Bool) : Int32 := bif b then 1 else 0
theorem gd_in {β : Type} {b : Bool} {X : Option β} {res : β} (h : gd b X = some res) : b = true ∧ X = some res := by
  cases b with
  | false => cases h
  | true => exact ⟨rfl, h⟩
theorem inb_in {i : Int32} {n : Nat} (h : inb i n = true) : vp_in i n ∧ i.toNatClampNeg < n := by
  simp only [inb, Bool.and_eq_true, Bool.not_eq_true', decide_eq_false_iff_not, decide_eq_true_eq] at h
  exact ⟨fun q => q.elim h.1 (fun q => absurd h.2 (Nat.not_lt.mpr q)), h.2⟩
theorem bo_in {α β : Type} {o : Option α} {f : α → Option β} {res : β} (h : bo o f = some res) : ∃ a, o = some a ∧ f a = some res := by
  cases o with
  | none => cases h
  | some a => exact ⟨a, rfl, h⟩
theorem bw_in {α β : Type} {o : Option (α × St)} {f : α → St → Option β} {res : β} (h : bw o f = some res) : ∃ (a : α) (S : St), o = some (a, S) ∧ f a S = some res := by
  cases o with
  | none => cases h
  | some a => exact ⟨a.1, a.2, rfl, h⟩
def wT (r : Nat) : Nat := [7, 4, 8, 3, 1, 1, 9, 0, 0, 0, 1, 1, 10, 5, 5, 5, 5, 5, 5, 0, 0, 0, 0, 0, 0, 6, 6, 6, 6, 6, 6, 1, 1, 1, 1, 1, 1, 0, 0, 1, 1, 1, 1, 2, 0, 0, 0, 0].getD r 11
def wL (n r : Nat) : Nat := [0, 6, 0, 6, 2 ^ n, 2 ^ n, 0, n, n, n, 36, 64, 0, 0, 0, 0, 0, 0, 0, n * n, n * n, n * n, n * n, n * n, n * n, 0, 0, 0, 0, 0, 0, 2 ^ n, 2 ^ n, 2 ^ n, 2 ^ n, 2 ^ n, 2 ^ n, 216, 6, 64, 384, 64, 64, 6, 6, 6, 6, 5].getD r 0
def wC (cy ad : Nat → Nat) (n : Nat) (S : St) (r : Nat) : va_E := match wT r with
  | 0 => .inl (cy 0, wL n r, .inl (S.1 r))
  | 1 => .inl (cy 1, wL n r, .inr (.inl (S.2 r)))
  | 2 => .inl (cy 2, wL n r, .inl (S.1 r))
  | 3 => .inl (cy 3, 6, .inr (.inr (.inr (.inr (fun t => some (ad (25 + t)))))))
  | 4 => .inl (cy 4, 6, .inr (.inr (.inr (.inr (fun t => some (ad (13 + t)))))))
  | 5 => .inr (3, [.int (nI n), .ref (ad (r + 6))])
  | 6 => .inr (0, [.ref (ad (r + 6)), .long (S.2 r 0), .int (S.1 r 0)])
  | 7 => .inr (4, [.int (nI n), .int (nI (2 ^ n)), .ref (ad 1), .ref (ad 2), .ref (ad 3), .ref (ad 4), .ref (ad 5), .ref (ad 6)])
  | 8 => .inr (1, [.int (nI n), .ref (ad 7), .ref (ad 8), .ref (ad 9)])
  | 9 => .inr (2, [.ref (ad 10), .ref (ad 11), .int (S.1 r 0)])
  | _ => .inr (5, [.int (nI n), .int (nI (2 ^ n)), .ref (ad 37), .ref (ad 38), .ref (ad 39), .ref (ad 40), .ref (ad 41), .ref (ad 42), .ref (ad 43), .ref (ad 44), .ref (ad 45), .ref (ad 46), .ref (ad 47)])
def WW (cy ad : Nat → Nat) (n : Nat) (S : St) : va_W := (List.range 48).map (fun r => (ad r, wC cy ad n S r))
theorem WW_at {cy ad : Nat → Nat} {n : Nat} {S : St} {r : Nat} (hr : r < 48) : (WW cy ad n S)[r]? = some (ad r, wC cy ad n S r) := by
  simp [WW, hr]
theorem WW_get {cy ad : Nat → Nat} {n : Nat} {S : St} {k : Nat} {q : Nat × va_E} (h : (WW cy ad n S)[k]? = some q) : k < 48 ∧ q = (ad k, wC cy ad n S k) := by
  have hl : k < 48 := by
    have := (List.getElem?_eq_some_iff.mp h).1
    simpa [WW] using this
  rw [WW_at hl] at h
  exact ⟨hl, (Option.some.inj h).symm⟩
theorem WW_set {cy ad : Nat → Nat} {n : Nat} {S S' : St} {r : Nat} {e : va_E} (hr : r < 48) (h1 : wC cy ad n S' r = e) (h2 : ∀ q, q ≠ r → wC cy ad n S' q = wC cy ad n S q) : (WW cy ad n S).set r (ad r, e) = WW cy ad n S' := by
  apply List.ext_getElem?
  intro j
  by_cases hj : j = r
  · subst hj
    rw [List.getElem?_set_self (by simpa [WW] using hr), WW_at hr, h1]
  · rw [List.getElem?_set_ne (Ne.symm hj)]
    by_cases h48 : j < 48
    · rw [WW_at h48, WW_at h48, h2 j hj]
    · rw [List.getElem?_eq_none (by simp [WW]; omega), List.getElem?_eq_none (by simp [WW]; omega)]
def Aw (ad : Nat → Nat) : Nat → Prop := fun q => ∃ r, r < 48 ∧ q = ad r
theorem WW_D {cy ad : Nat → Nat} {n : Nat} {S : St} (hi : ∀ i j, i < 48 → j < 48 → ad i = ad j → i = j) : va_D (Aw ad) (WW cy ad n S) := by
  refine ⟨fun i j p q h1 h2 h3 => ?_, fun k q h => ?_⟩
  · obtain ⟨a1, rfl⟩ := WW_get h1
    obtain ⟨a2, rfl⟩ := WW_get h2
    exact hi i j a1 a2 h3
  · obtain ⟨a1, rfl⟩ := WW_get h
    exact ⟨k, a1, rfl⟩
abbrev TY (cy : Nat → Nat) : List (ClassId × FieldType) := [(cy 0, .int), (cy 1, .long), (cy 2, .boolean), (cy 3, .object "ShunLots$Law"), (cy 4, .object "ShunLots$Table")]
def NN (U : State) : Prop := va_Nw (.methodLinkNest RX3 29 yX4_has "ShunLots") U ∧ va_Nw (.methodLinkNest RX2 31 yX4_isAmong "ShunLots") U ∧ va_Nw (.methodLinkNest RX1 47 yX4_has "ShunLots") U ∧ va_Nw (.methodLinkNest RX0 21 yX4_fits "ShunLots") U
def KK (D : va_G) (cy ad : Nat → Nat) (U : State) : Prop := va_K D vwCl (TY cy) U ∧ NN U ∧ ∀ i j, i < 48 → j < 48 → ad i = ad j → i = j
theorem NN.moved {s U : State} (hW : s.WarmedH U.vm) (h : NN s) : NN U := ⟨h.1.warmM hW, h.2.1.warmM hW, h.2.2.1.warmM hW, h.2.2.2.warmM hW⟩
theorem KK.moved {D : va_G} {cy ad : Nat → Nat} {s U : State} (hW : s.WarmedH U.vm) (h : KK D cy ad s) : KK D cy ad U := ⟨va_K.moved hW.alike h.1, h.2.1.moved hW, h.2.2⟩
theorem KK.calling {D : va_G} {cy ad : Nat → Nat} {U : State} {g : JFrame} {mk : MethodId} {a : Array Value} (h : KK D cy ad U) : KK D cy ad (U.calling g mk a) := ⟨va_K.moved (u := U) (U := U.calling g mk a) (Vm.Alike.refl U.vm) h.1, ⟨va_Nw.same rfl rfl h.2.1.1, va_Nw.same rfl rfl h.2.1.2.1, va_Nw.same rfl rfl h.2.1.2.2.1, va_Nw.same rfl rfl h.2.1.2.2.2⟩, h.2.2⟩
/-! ===== contracts ===== -/
def CP (l : Launch) (y : MethodName) (ws : List Cond) (rm : Room) (av : List Value) (rv : Option Value) : Prop := Met l y ws rm (fun v _ => v = av.toArray) (fun _ st oc t => oc = .returned rv ∧ t.heap = st.heap) 0 0 (fun _ => False)
def CW (l : Launch) (D : va_G) (cy ad : Nat → Nat) (n : Nat) (y : MethodName) (ws : List Cond) (rm : Room) (av : List Value) (S : St) (rv : Option Value) (S' : St) : Prop := Met l y ws rm (fun v U => v = av.toArray ∧ va_P D vwCl (WW cy ad n S) U.heap ∧ KK D cy ad U) (fun _ st oc t => oc = .returned rv ∧ va_P D vwCl (WW cy ad n S') t.heap ∧ va_F (Aw ad) st t) 0 0 (Aw ad)
def Hp (s : State) : Heap → List Loc → Prop := fun H locs => H = s.heap ∧ locs = []
def Hw (D : va_G) (cy ad : Nat → Nat) (n : Nat) (s : State) (S : St) : Heap → List Loc → Prop := fun H locs => va_P D vwCl (WW cy ad n S) H ∧ va_S (Aw ad) s.heap H locs
abbrev Qp (below : List Frame) (args : Array Value) (s : State) (rv : Option Value) : State → Prop := MQ below (fun _ st oc t => oc = .returned rv ∧ t.heap = st.heap) args s 0 0 (fun _ => False)
abbrev Qw (D : va_G) (cy ad : Nat → Nat) (n : Nat) (below : List Frame) (args : Array Value) (s : State) (rv : Option Value) (S' : St) : State → Prop := MQ below (fun _ st oc t => oc = .returned rv ∧ va_P D vwCl (WW cy ad n S') t.heap ∧ va_F (Aw ad) st t) args s 0 0 (Aw ad)
def Zz (p : Program) (l : Launch) (e : Env) (R : Room) (s : State) (m : MethodId) (args : Array Value) (below : List Frame) (meth : Method) (c : Code) (nL : Nat) (Q : State → Prop) (HP : Heap → List Loc → Prop) (pc : Nat) (lv : List (Nat × Value)) (st : List Value) : Prop :=
  ∀ (H : Heap) (locs : List Loc) (ls : Array Slot), HP H locs → lv_has ls nL lv → W p l e R s m args below meth c H locs 0 0 Q (F0 m pc ls st)
/-- what a body has from its entry -/
def MX (p : Program) (m : MethodId) (c : Code) (cc : ByteArray) (nL : Nat) (s : State) (args : Array Value) (Ts : List Cond) (own : String) (meth : Method) (ret : Option FieldType) : Prop := CallFix p m c cc nL s args Ts own ∧ meth.sig.returnType = ret ∧ meth.locks = false
theorem CP.of {l : Launch} {y : MethodName} {ws ws' : List Cond} {rm : Room} {av : List Value} {rv : Option Value} {cc : ByteArray} {nL : Nat} {ret : Option FieldType} {own : String} (ho : y.cls = own) (hy : plainName y.cls = true) (hw : ws = Cond.code y cc nL ret :: ws') (hn : (lg_sl av).length ≤ nL)
    (k : ∀ p e s m args below meth c, MX p m c cc nL s args ws own meth ret → Zz p l e rm s m args below meth c nL (Qp below args s rv) (Hp s) 0 (lv_args 0 av) []) : CP l y ws rm av rv := by
  refine Met.ofW (cc := cc) (maxL := nL) (ret := ret) hy hw ?_
  intro p e s m args below meth c s₁ B hml hv
  subst hv
  subst ho
  rw [lg_entry_eq]
  exact k p e s m _ below meth c ⟨⟨B.exec, B.bytes, hml, findClass_of_methodNamed B.named, atoms_spec (ws := ws) B.pre⟩, B.returns, B.notSynchronized⟩ _ _ _ ⟨rfl, rfl⟩ (lv_entry av hn)
theorem CW.of {l : Launch} {D : va_G} {cy ad : Nat → Nat} {n : Nat} {y : MethodName} {ws ws' : List Cond} {rm : Room} {av : List Value} {rv : Option Value} {S S' : St} {cc : ByteArray} {nL : Nat} {ret : Option FieldType} {own : String} (ho : y.cls = own) (hy : plainName y.cls = true) (hw : ws = Cond.code y cc nL ret :: ws') (hn : (lg_sl av).length ≤ nL)
    (k : ∀ p e s m args below meth c, MX p m c cc nL s args ws own meth ret → KK D cy ad s → Zz p l e rm s m args below meth c nL (Qw D cy ad n below args s rv S') (Hw D cy ad n s S) 0 (lv_args 0 av) []) : CW l D cy ad n y ws rm av S rv S' := by
  refine Met.ofW (cc := cc) (maxL := nL) (ret := ret) hy hw ?_
  intro p e s m args below meth c s₁ B hml hv
  obtain ⟨hv, hP, hK⟩ := hv
  subst hv
  subst ho
  rw [lg_entry_eq]
  exact k p e s m _ below meth c ⟨⟨B.exec, B.bytes, hml, findClass_of_methodNamed B.named, atoms_spec (ws := ws) B.pre⟩, B.returns, B.notSynchronized⟩ hK _ _ _ ⟨hP, va_S.rf⟩ (lv_entry av hn)
end
section
/-! ===== rows over Zz, for instructions that leave the heap ===== -/
section ZR
variable {p : Program} {l : Launch} {e : Env} {R : Room} {s : State} {m : MethodId} {args : Array Value} {below : List Frame} {meth : Method} {c : Code} {nL : Nat} {Q : State → Prop} {HP : Heap → List Loc → Prop} {cc : ByteArray} {Ts : List Cond} {own : String} {ret : Option FieldType} {pc : Nat} {lv : List (Nat × Value)} {st : List Value}
theorem z_iconst {n : Int} {v : Int32} (M : MX p m c cc nL s args Ts own meth ret) (hd : decode cc pc = .ok (.iconst n, 1)) (hv : Int32.ofInt n = v) (k : Zz p l e R s m args below meth c nL Q HP (pc + 1) lv (.int v :: st)) : Zz p l e R s m args below meth c nL Q HP pc lv st := fun H locs ls h hl => lv_iconst M.1.1 M.1.2.1 hd hv (k H locs ls h hl)
theorem z_bipush {n : Int} {v : Int32} (M : MX p m c cc nL s args Ts own meth ret) (hd : decode cc pc = .ok (.bipush n, 2)) (hv : (Int8.ofInt n).toInt32 = v) (k : Zz p l e R s m args below meth c nL Q HP (pc + 2) lv (.int v :: st)) : Zz p l e R s m args below meth c nL Q HP pc lv st := fun H locs ls h hl => lv_bipush M.1.1 M.1.2.1 hd hv (k H locs ls h hl)
theorem z_sipush {n : Int} {v : Int32} (M : MX p m c cc nL s args Ts own meth ret) (hd : decode cc pc = .ok (.sipush n, 3)) (hv : (Int16.ofInt n).toInt32 = v) (k : Zz p l e R s m args below meth c nL Q HP (pc + 3) lv (.int v :: st)) : Zz p l e R s m args below meth c nL Q HP pc lv st := fun H locs ls h hl => lv_sipush M.1.1 M.1.2.1 hd hv (k H locs ls h hl)
theorem z_lconst {n : Fin 2} {v : Int64} (M : MX p m c cc nL s args Ts own meth ret) (hd : decode cc pc = .ok (.lconst n, 1)) (hv : Int64.ofNat (n : Nat) = v) (k : Zz p l e R s m args below meth c nL Q HP (pc + 1) lv (.long v :: st)) : Zz p l e R s m args below meth c nL Q HP pc lv st := fun H locs ls h hl => lv_lconst M.1.1 M.1.2.1 hd hv (k H locs ls h hl)
theorem z_iload_n {k0 : Fin 4} {i : Nat} {x : Int32} (M : MX p m c cc nL s args Ts own meth ret) (hd : decode cc pc = .ok (.iload_n k0, 1)) (hi : (k0 : Nat) = i) (j : Nat) (hj : lv[j]? = some (i, .int x)) (k : Zz p l e R s m args below meth c nL Q HP (pc + 1) lv (.int x :: st)) : Zz p l e R s m args below meth c nL Q HP pc lv st := fun H locs ls h hl => lv_iload_n M.1.1 M.1.2.1 hd hi (lv_at hl j hj) (k H locs ls h hl)
theorem z_iload {i : Nat} {x : Int32} (M : MX p m c cc nL s args Ts own meth ret) (hd : decode cc pc = .ok (.iload i, 2)) (j : Nat) (hj : lv[j]? = some (i, .int x)) (k : Zz p l e R s m args below meth c nL Q HP (pc + 2) lv (.int x :: st)) : Zz p l e R s m args below meth c nL Q HP pc lv st := fun H locs ls h hl => lv_iload M.1.1 M.1.2.1 hd (lv_at hl j hj) (k H locs ls h hl)
theorem z_lload_n {k0 : Fin 4} {i : Nat} {x : Int64} (M : MX p m c cc nL s args Ts own meth ret) (hd : decode cc pc = .ok (.lload_n k0, 1)) (hi : (k0 : Nat) = i) (j : Nat) (hj : lv[j]? = some (i, .long x)) (k : Zz p l e R s m args below meth c nL Q HP (pc + 1) lv (.long x :: st)) : Zz p l e R s m args below meth c nL Q HP pc lv st := fun H locs ls h hl => lv_lload_n M.1.1 M.1.2.1 hd hi (lv_at hl j hj) (k H locs ls h hl)
theorem z_lload {i : Nat} {x : Int64} (M : MX p m c cc nL s args Ts own meth ret) (hd : decode cc pc = .ok (.lload i, 2)) (j : Nat) (hj : lv[j]? = some (i, .long x)) (k : Zz p l e R s m args below meth c nL Q HP (pc + 2) lv (.long x :: st)) : Zz p l e R s m args below meth c nL Q HP pc lv st := fun H locs ls h hl => lv_lload M.1.1 M.1.2.1 hd (lv_at hl j hj) (k H locs ls h hl)
theorem z_aload_n {k0 : Fin 4} {i : Nat} {x : Nat} (M : MX p m c cc nL s args Ts own meth ret) (hd : decode cc pc = .ok (.aload_n k0, 1)) (hi : (k0 : Nat) = i) (j : Nat) (hj : lv[j]? = some (i, .ref x)) (k : Zz p l e R s m args below meth c nL Q HP (pc + 1) lv (.ref x :: st)) : Zz p l e R s m args below meth c nL Q HP pc lv st := fun H locs ls h hl => lv_aload_n M.1.1 M.1.2.1 hd hi (lv_at hl j hj) (k H locs ls h hl)
theorem z_aload {i : Nat} {x : Nat} (M : MX p m c cc nL s args Ts own meth ret) (hd : decode cc pc = .ok (.aload i, 2)) (j : Nat) (hj : lv[j]? = some (i, .ref x)) (k : Zz p l e R s m args below meth c nL Q HP (pc + 2) lv (.ref x :: st)) : Zz p l e R s m args below meth c nL Q HP pc lv st := fun H locs ls h hl => lv_aload M.1.1 M.1.2.1 hd (lv_at hl j hj) (k H locs ls h hl)
theorem z_istore_n {k0 : Fin 4} {i : Nat} {x : Int32} (M : MX p m c cc nL s args Ts own meth ret) (hd : decode cc pc = .ok (.istore_n k0, 1)) (hi : (k0 : Nat) = i) (hn : i < nL) (ks : List Nat) (lv' : List (Nat × Value)) (hk : lv_pick ((i, Value.int x) :: lv.filter (fun q => !(q.1 == i) && !(q.1 + 1 == i && q.2.category == 2))) ks = lv') (k : Zz p l e R s m args below meth c nL Q HP (pc + 1) lv' st) : Zz p l e R s m args below meth c nL Q HP pc lv (.int x :: st) := fun H locs ls h hl => lv_istore_n M.1.1 M.1.2.1 hd hi hl hn rfl (fun ls' hl' => k H locs ls' h (lv_sub hl' ks hk))
theorem z_istore {i : Nat} {x : Int32} (M : MX p m c cc nL s args Ts own meth ret) (hd : decode cc pc = .ok (.istore i, 2)) (hn : i < nL) (ks : List Nat) (lv' : List (Nat × Value)) (hk : lv_pick ((i, Value.int x) :: lv.filter (fun q => !(q.1 == i) && !(q.1 + 1 == i && q.2.category == 2))) ks = lv') (k : Zz p l e R s m args below meth c nL Q HP (pc + 2) lv' st) : Zz p l e R s m args below meth c nL Q HP pc lv (.int x :: st) := fun H locs ls h hl => lv_istore M.1.1 M.1.2.1 hd hl hn rfl (fun ls' hl' => k H locs ls' h (lv_sub hl' ks hk))
theorem z_lstore_n {k0 : Fin 4} {i : Nat} {x : Int64} (M : MX p m c cc nL s args Ts own meth ret) (hd : decode cc pc = .ok (.lstore_n k0, 1)) (hi : (k0 : Nat) = i) (hn : i + 1 < nL) (ks : List Nat) (lv' : List (Nat × Value)) (hk : lv_pick ((i, Value.long x) :: lv.filter (fun q => !(q.1 == i) && (!(q.1 == i + 1) && !(q.1 + 1 == i && q.2.category == 2)))) ks = lv') (k : Zz p l e R s m args below meth c nL Q HP (pc + 1) lv' st) : Zz p l e R s m args below meth c nL Q HP pc lv (.long x :: st) := fun H locs ls h hl => lv_lstore_n M.1.1 M.1.2.1 hd hi hl hn rfl (fun ls' hl' => k H locs ls' h (lv_sub hl' ks hk))
theorem z_lstore {i : Nat} {x : Int64} (M : MX p m c cc nL s args Ts own meth ret) (hd : decode cc pc = .ok (.lstore i, 2)) (hn : i + 1 < nL) (ks : List Nat) (lv' : List (Nat × Value)) (hk : lv_pick ((i, Value.long x) :: lv.filter (fun q => !(q.1 == i) && (!(q.1 == i + 1) && !(q.1 + 1 == i && q.2.category == 2)))) ks = lv') (k : Zz p l e R s m args below meth c nL Q HP (pc + 2) lv' st) : Zz p l e R s m args below meth c nL Q HP pc lv (.long x :: st) := fun H locs ls h hl => lv_lstore M.1.1 M.1.2.1 hd hl hn rfl (fun ls' hl' => k H locs ls' h (lv_sub hl' ks hk))
theorem z_astore_n {k0 : Fin 4} {i : Nat} {x : Nat} (M : MX p m c cc nL s args Ts own meth ret) (hd : decode cc pc = .ok (.astore_n k0, 1)) (hi : (k0 : Nat) = i) (hn : i < nL) (ks : List Nat) (lv' : List (Nat × Value)) (hk : lv_pick ((i, Value.ref x) :: lv.filter (fun q => !(q.1 == i) && !(q.1 + 1 == i && q.2.category == 2))) ks = lv') (k : Zz p l e R s m args below meth c nL Q HP (pc + 1) lv' st) : Zz p l e R s m args below meth c nL Q HP pc lv (.ref x :: st) := fun H locs ls h hl => lv_astore_n M.1.1 M.1.2.1 hd hi hl hn rfl (fun ls' hl' => k H locs ls' h (lv_sub hl' ks hk))
theorem z_astore {i : Nat} {x : Nat} (M : MX p m c cc nL s args Ts own meth ret) (hd : decode cc pc = .ok (.astore i, 2)) (hn : i < nL) (ks : List Nat) (lv' : List (Nat × Value)) (hk : lv_pick ((i, Value.ref x) :: lv.filter (fun q => !(q.1 == i) && !(q.1 + 1 == i && q.2.category == 2))) ks = lv') (k : Zz p l e R s m args below meth c nL Q HP (pc + 2) lv' st) : Zz p l e R s m args below meth c nL Q HP pc lv (.ref x :: st) := fun H locs ls h hl => lv_astore M.1.1 M.1.2.1 hd hl hn rfl (fun ls' hl' => k H locs ls' h (lv_sub hl' ks hk))
theorem z_astoreN {i : Nat} (M : MX p m c cc nL s args Ts own meth ret) (hd : decode cc pc = .ok (.astore i, 2)) (hn : i < nL) (ks : List Nat) (lv' : List (Nat × Value)) (hk : lv_pick ((i, Value.null) :: lv.filter (fun q => !(q.1 == i) && !(q.1 + 1 == i && q.2.category == 2))) ks = lv') (k : Zz p l e R s m args below meth c nL Q HP (pc + 2) lv' st) : Zz p l e R s m args below meth c nL Q HP pc lv (.null :: st) := fun H locs ls h hl => lv_astoreN M.1.1 M.1.2.1 hd hl hn rfl (fun ls' hl' => k H locs ls' h (lv_sub hl' ks hk))
theorem z_astore_nN {k0 : Fin 4} {i : Nat} (M : MX p m c cc nL s args Ts own meth ret) (hd : decode cc pc = .ok (.astore_n k0, 1)) (hi : (k0 : Nat) = i) (hn : i < nL) (ks : List Nat) (lv' : List (Nat × Value)) (hk : lv_pick ((i, Value.null) :: lv.filter (fun q => !(q.1 == i) && !(q.1 + 1 == i && q.2.category == 2))) ks = lv') (k : Zz p l e R s m args below meth c nL Q HP (pc + 1) lv' st) : Zz p l e R s m args below meth c nL Q HP pc lv (.null :: st) := fun H locs ls h hl => lv_astore_nN M.1.1 M.1.2.1 hd hi hl hn rfl (fun ls' hl' => k H locs ls' h (lv_sub hl' ks hk))
theorem z_aload_nN {k0 : Fin 4} {i : Nat} (M : MX p m c cc nL s args Ts own meth ret) (hd : decode cc pc = .ok (.aload_n k0, 1)) (hi : (k0 : Nat) = i) (j : Nat) (hj : lv[j]? = some (i, .null)) (k : Zz p l e R s m args below meth c nL Q HP (pc + 1) lv (.null :: st)) : Zz p l e R s m args below meth c nL Q HP pc lv st := fun H locs ls h hl => lv_aload_nN M.1.1 M.1.2.1 hd hi (lv_at hl j hj) (k H locs ls h hl)
theorem z_aloadN {i : Nat} (M : MX p m c cc nL s args Ts own meth ret) (hd : decode cc pc = .ok (.aload i, 2)) (j : Nat) (hj : lv[j]? = some (i, .null)) (k : Zz p l e R s m args below meth c nL Q HP (pc + 2) lv (.null :: st)) : Zz p l e R s m args below meth c nL Q HP pc lv st := fun H locs ls h hl => lv_aloadN M.1.1 M.1.2.1 hd (lv_at hl j hj) (k H locs ls h hl)
theorem z_iinc {i : Nat} {n : Int} {x : Int32} (M : MX p m c cc nL s args Ts own meth ret) (hd : decode cc pc = .ok (.iinc i n, 3)) (v : Int32) (hv : x + Int32.ofInt n = v) (j : Nat) (hj : lv[j]? = some (i, .int x)) (hn : i < nL) (ks : List Nat) (lv' : List (Nat × Value)) (hk : lv_pick ((i, Value.int v) :: lv.filter (fun q => !(q.1 == i) && !(q.1 + 1 == i && q.2.category == 2))) ks = lv') (k : Zz p l e R s m args below meth c nL Q HP (pc + 3) lv' st) : Zz p l e R s m args below meth c nL Q HP pc lv st := fun H locs ls h hl => lv_iinc M.1.1 M.1.2.1 hd hl hj hv hn rfl (fun ls' hl' => k H locs ls' h (lv_sub hl' ks hk))
theorem z_locals (ks : List Nat) (lv' : List (Nat × Value)) (hk : lv_pick lv ks = lv') (k : Zz p l e R s m args below meth c nL Q HP pc lv' st) : Zz p l e R s m args below meth c nL Q HP pc lv st := fun H locs ls h hl => k H locs ls h (lv_sub hl ks hk)
theorem z_iadd {x y : Int32} (M : MX p m c cc nL s args Ts own meth ret) (hd : decode cc pc = .ok (.iadd, 1)) (k : Zz p l e R s m args below meth c nL Q HP (pc + 1) lv (.int (x + y) :: st)) : Zz p l e R s m args below meth c nL Q HP pc lv (.int y :: .int x :: st) := fun H locs ls h hl => lv_iadd M.1.1 M.1.2.1 hd (k H locs ls h hl)
theorem z_isub {x y : Int32} (M : MX p m c cc nL s args Ts own meth ret) (hd : decode cc pc = .ok (.isub, 1)) (k : Zz p l e R s m args below meth c nL Q HP (pc + 1) lv (.int (x - y) :: st)) : Zz p l e R s m args below meth c nL Q HP pc lv (.int y :: .int x :: st) := fun H locs ls h hl => lv_isub M.1.1 M.1.2.1 hd (k H locs ls h hl)
theorem z_imul {x y : Int32} (M : MX p m c cc nL s args Ts own meth ret) (hd : decode cc pc = .ok (.imul, 1)) (k : Zz p l e R s m args below meth c nL Q HP (pc + 1) lv (.int (x * y) :: st)) : Zz p l e R s m args below meth c nL Q HP pc lv (.int y :: .int x :: st) := fun H locs ls h hl => lv_imul M.1.1 M.1.2.1 hd (k H locs ls h hl)
theorem z_iand {x y : Int32} (M : MX p m c cc nL s args Ts own meth ret) (hd : decode cc pc = .ok (.iand, 1)) (k : Zz p l e R s m args below meth c nL Q HP (pc + 1) lv (.int (x &&& y) :: st)) : Zz p l e R s m args below meth c nL Q HP pc lv (.int y :: .int x :: st) := fun H locs ls h hl => lv_iand M.1.1 M.1.2.1 hd (k H locs ls h hl)
theorem z_ior {x y : Int32} (M : MX p m c cc nL s args Ts own meth ret) (hd : decode cc pc = .ok (.ior, 1)) (k : Zz p l e R s m args below meth c nL Q HP (pc + 1) lv (.int (x ||| y) :: st)) : Zz p l e R s m args below meth c nL Q HP pc lv (.int y :: .int x :: st) := fun H locs ls h hl => lv_ior M.1.1 M.1.2.1 hd (k H locs ls h hl)
theorem z_ixor {x y : Int32} (M : MX p m c cc nL s args Ts own meth ret) (hd : decode cc pc = .ok (.ixor, 1)) (k : Zz p l e R s m args below meth c nL Q HP (pc + 1) lv (.int (x ^^^ y) :: st)) : Zz p l e R s m args below meth c nL Q HP pc lv (.int y :: .int x :: st) := fun H locs ls h hl => lv_ixor M.1.1 M.1.2.1 hd (k H locs ls h hl)
theorem z_ishl {x y : Int32} (M : MX p m c cc nL s args Ts own meth ret) (hd : decode cc pc = .ok (.ishl, 1)) (k : Zz p l e R s m args below meth c nL Q HP (pc + 1) lv (.int (x <<< (y &&& 31)) :: st)) : Zz p l e R s m args below meth c nL Q HP pc lv (.int y :: .int x :: st) := fun H locs ls h hl => lv_ishl M.1.1 M.1.2.1 hd (k H locs ls h hl)
theorem z_ishr {x y : Int32} (M : MX p m c cc nL s args Ts own meth ret) (hd : decode cc pc = .ok (.ishr, 1)) (k : Zz p l e R s m args below meth c nL Q HP (pc + 1) lv (.int (x >>> (y &&& 31)) :: st)) : Zz p l e R s m args below meth c nL Q HP pc lv (.int y :: .int x :: st) := fun H locs ls h hl => lv_ishr M.1.1 M.1.2.1 hd (k H locs ls h hl)
theorem z_ladd {x y : Int64} (M : MX p m c cc nL s args Ts own meth ret) (hd : decode cc pc = .ok (.ladd, 1)) (k : Zz p l e R s m args below meth c nL Q HP (pc + 1) lv (.long (x + y) :: st)) : Zz p l e R s m args below meth c nL Q HP pc lv (.long y :: .long x :: st) := fun H locs ls h hl => lv_ladd M.1.1 M.1.2.1 hd (k H locs ls h hl)
theorem z_lsub {x y : Int64} (M : MX p m c cc nL s args Ts own meth ret) (hd : decode cc pc = .ok (.lsub, 1)) (k : Zz p l e R s m args below meth c nL Q HP (pc + 1) lv (.long (x - y) :: st)) : Zz p l e R s m args below meth c nL Q HP pc lv (.long y :: .long x :: st) := fun H locs ls h hl => lv_lsub M.1.1 M.1.2.1 hd (k H locs ls h hl)
theorem z_lmul {x y : Int64} (M : MX p m c cc nL s args Ts own meth ret) (hd : decode cc pc = .ok (.lmul, 1)) (k : Zz p l e R s m args below meth c nL Q HP (pc + 1) lv (.long (x * y) :: st)) : Zz p l e R s m args below meth c nL Q HP pc lv (.long y :: .long x :: st) := fun H locs ls h hl => lv_lmul M.1.1 M.1.2.1 hd (k H locs ls h hl)
theorem z_land {x y : Int64} (M : MX p m c cc nL s args Ts own meth ret) (hd : decode cc pc = .ok (.land, 1)) (k : Zz p l e R s m args below meth c nL Q HP (pc + 1) lv (.long (x &&& y) :: st)) : Zz p l e R s m args below meth c nL Q HP pc lv (.long y :: .long x :: st) := fun H locs ls h hl => lv_land M.1.1 M.1.2.1 hd (k H locs ls h hl)
theorem z_lor {x y : Int64} (M : MX p m c cc nL s args Ts own meth ret) (hd : decode cc pc = .ok (.lor, 1)) (k : Zz p l e R s m args below meth c nL Q HP (pc + 1) lv (.long (x ||| y) :: st)) : Zz p l e R s m args below meth c nL Q HP pc lv (.long y :: .long x :: st) := fun H locs ls h hl => lv_lor M.1.1 M.1.2.1 hd (k H locs ls h hl)
theorem z_lxor {x y : Int64} (M : MX p m c cc nL s args Ts own meth ret) (hd : decode cc pc = .ok (.lxor, 1)) (k : Zz p l e R s m args below meth c nL Q HP (pc + 1) lv (.long (x ^^^ y) :: st)) : Zz p l e R s m args below meth c nL Q HP pc lv (.long y :: .long x :: st) := fun H locs ls h hl => lv_lxor M.1.1 M.1.2.1 hd (k H locs ls h hl)
theorem z_ineg {x : Int32} (M : MX p m c cc nL s args Ts own meth ret) (hd : decode cc pc = .ok (.ineg, 1)) (k : Zz p l e R s m args below meth c nL Q HP (pc + 1) lv (.int (-x) :: st)) : Zz p l e R s m args below meth c nL Q HP pc lv (.int x :: st) := fun H locs ls h hl => lv_ineg M.1.1 M.1.2.1 hd (k H locs ls h hl)
theorem z_lneg {x : Int64} (M : MX p m c cc nL s args Ts own meth ret) (hd : decode cc pc = .ok (.lneg, 1)) (k : Zz p l e R s m args below meth c nL Q HP (pc + 1) lv (.long (-x) :: st)) : Zz p l e R s m args below meth c nL Q HP pc lv (.long x :: st) := fun H locs ls h hl => lv_lneg M.1.1 M.1.2.1 hd (k H locs ls h hl)
theorem z_i2l {x : Int32} (M : MX p m c cc nL s args Ts own meth ret) (hd : decode cc pc = .ok (.i2l, 1)) (k : Zz p l e R s m args below meth c nL Q HP (pc + 1) lv (.long x.toInt64 :: st)) : Zz p l e R s m args below meth c nL Q HP pc lv (.int x :: st) := fun H locs ls h hl => lv_i2l M.1.1 M.1.2.1 hd rfl (k H locs ls h hl)
theorem z_lcmp {x y : Int64} (M : MX p m c cc nL s args Ts own meth ret) (hd : decode cc pc = .ok (.lcmp, 1)) (k : Zz p l e R s m args below meth c nL Q HP (pc + 1) lv (.int (lg_cmp x y) :: st)) : Zz p l e R s m args below meth c nL Q HP pc lv (.long y :: .long x :: st) := fun H locs ls h hl => W.lcmp M.1.1 M.1.2.1 hd (k H locs ls h hl)
theorem z_iushr {x y : Int32} (M : MX p m c cc nL s args Ts own meth ret) (hd : decode cc pc = .ok (.iushr, 1)) (k : Zz p l e R s m args below meth c nL Q HP (pc + 1) lv (.int ((x.toUInt32 >>> (y.toUInt32 &&& Int32.toUInt32 31)).toInt32) :: st)) : Zz p l e R s m args below meth c nL Q HP pc lv (.int y :: .int x :: st) := fun H locs ls h hl => lv_iushr M.1.1 M.1.2.1 hd rfl (k H locs ls h hl)
theorem z_lushr {x : Int64} {y : Int32} (M : MX p m c cc nL s args Ts own meth ret) (hd : decode cc pc = .ok (.lushr, 1)) (k : Zz p l e R s m args below meth c nL Q HP (pc + 1) lv (.long ((x.toUInt64 >>> (y.toInt64.toUInt64 &&& Int64.toUInt64 63)).toInt64) :: st)) : Zz p l e R s m args below meth c nL Q HP pc lv (.int y :: .long x :: st) := fun H locs ls h hl => lv_lushr M.1.1 M.1.2.1 hd rfl (k H locs ls h hl)
theorem z_lshl {x : Int64} {y : Int32} (M : MX p m c cc nL s args Ts own meth ret) (hd : decode cc pc = .ok (.lshl, 1)) (k : Zz p l e R s m args below meth c nL Q HP (pc + 1) lv (.long (x <<< (y.toInt64 &&& 63)) :: st)) : Zz p l e R s m args below meth c nL Q HP pc lv (.int y :: .long x :: st) := fun H locs ls h hl => lv_lshl M.1.1 M.1.2.1 hd rfl (k H locs ls h hl)
theorem z_ldiv {β : Type} {X : Option β} {res : β} {x y : Int64} (M : MX p m c cc nL s args Ts own meth ret) (hd : decode cc pc = .ok (.ldiv, 1)) (h : gd (!(decide (y = 0))) X = some res) (k : X = some res → Zz p l e R s m args below meth c nL Q HP (pc + 1) lv (.long (x / y) :: st)) : Zz p l e R s m args below meth c nL Q HP pc lv (.long y :: .long x :: st) := fun H locs ls hh hl => lv_ldiv M.1.1 M.1.2.1 hd (by have := (gd_in h).1; simpa using this) (k (gd_in h).2 H locs ls hh hl)
theorem z_ldiv_c {x y : Int64} (M : MX p m c cc nL s args Ts own meth ret) (hd : decode cc pc = .ok (.ldiv, 1)) (h : ¬ y = 0) (k : Zz p l e R s m args below meth c nL Q HP (pc + 1) lv (.long (x / y) :: st)) : Zz p l e R s m args below meth c nL Q HP pc lv (.long y :: .long x :: st) := fun H locs ls hh hl => lv_ldiv M.1.1 M.1.2.1 hd h (k H locs ls hh hl)
theorem z_lrem {β : Type} {X : Option β} {res : β} {x y : Int64} (M : MX p m c cc nL s args Ts own meth ret) (hd : decode cc pc = .ok (.lrem, 1)) (h : gd (!(decide (y = 0))) X = some res) (k : X = some res → Zz p l e R s m args below meth c nL Q HP (pc + 1) lv (.long (x - x / y * y) :: st)) : Zz p l e R s m args below meth c nL Q HP pc lv (.long y :: .long x :: st) := fun H locs ls hh hl => lv_lrem M.1.1 M.1.2.1 hd (by have := (gd_in h).1; simpa using this) (k (gd_in h).2 H locs ls hh hl)
theorem z_lrem_c {x y : Int64} (M : MX p m c cc nL s args Ts own meth ret) (hd : decode cc pc = .ok (.lrem, 1)) (h : ¬ y = 0) (k : Zz p l e R s m args below meth c nL Q HP (pc + 1) lv (.long (x - x / y * y) :: st)) : Zz p l e R s m args below meth c nL Q HP pc lv (.long y :: .long x :: st) := fun H locs ls hh hl => lv_lrem M.1.1 M.1.2.1 hd h (k H locs ls hh hl)
theorem z_irem {β : Type} {X : Option β} {res : β} {x y : Int32} (M : MX p m c cc nL s args Ts own meth ret) (hd : decode cc pc = .ok (.irem, 1)) (h : gd (!(decide (y = 0))) X = some res) (k : X = some res → Zz p l e R s m args below meth c nL Q HP (pc + 1) lv (.int (x - x / y * y) :: st)) : Zz p l e R s m args below meth c nL Q HP pc lv (.int y :: .int x :: st) := fun H locs ls hh hl => lv_irem M.1.1 M.1.2.1 hd (by have := (gd_in h).1; simpa using this) (k (gd_in h).2 H locs ls hh hl)
theorem z_irem_c {x y : Int32} (M : MX p m c cc nL s args Ts own meth ret) (hd : decode cc pc = .ok (.irem, 1)) (h : ¬ y = 0) (k : Zz p l e R s m args below meth c nL Q HP (pc + 1) lv (.int (x - x / y * y) :: st)) : Zz p l e R s m args below meth c nL Q HP pc lv (.int y :: .int x :: st) := fun H locs ls hh hl => lv_irem M.1.1 M.1.2.1 hd h (k H locs ls hh hl)
theorem z_dup {va : Value} (M : MX p m c cc nL s args Ts own meth ret) (hd : decode cc pc = .ok (.dup, 1)) (hva : va.category = 1) (k : Zz p l e R s m args below meth c nL Q HP (pc + 1) lv (va :: va :: st)) : Zz p l e R s m args below meth c nL Q HP pc lv (va :: st) := fun H locs ls h hl => lv_dup M.1.1 M.1.2.1 hd hva (k H locs ls h hl)
theorem z_dup2_11 {va vb : Value} (M : MX p m c cc nL s args Ts own meth ret) (hd : decode cc pc = .ok (.dup2, 1)) (hva : va.category = 1) (hvb : vb.category = 1) (k : Zz p l e R s m args below meth c nL Q HP (pc + 1) lv (va :: vb :: va :: vb :: st)) : Zz p l e R s m args below meth c nL Q HP pc lv (va :: vb :: st) := fun H locs ls h hl => lv_dup2_11 M.1.1 M.1.2.1 hd hva hvb (k H locs ls h hl)
theorem z_goto {off : Int} (tgt : Nat) (M : MX p m c cc nL s args Ts own meth ret) (hd : decode cc pc = .ok (.goto off, 3)) (ht : (pc : Int) + off = (tgt : Int)) (k : Zz p l e R s m args below meth c nL Q HP tgt lv st) : Zz p l e R s m args below meth c nL Q HP pc lv st := fun H locs ls h hl => lv_goto M.1.1 M.1.2.1 hd ht (k H locs ls h hl)
theorem z_if_eq {β : Type} {X Y : Option β} {res : β} {x : Int32} {off : Int} (tgt : Nat) (M : MX p m c cc nL s args Ts own meth ret) (hd : decode cc pc = .ok (.ifCond .eq off, 3)) (ht : (pc : Int) + off = (tgt : Int)) (h : (if x = 0 then X else Y) = some res) (kt : x = 0 → X = some res → Zz p l e R s m args below meth c nL Q HP tgt lv st) (kf : ¬ x = 0 → Y = some res → Zz p l e R s m args below meth c nL Q HP (pc + 3) lv st) : Zz p l e R s m args below meth c nL Q HP pc lv (.int x :: st) := fun H locs ls hh hl => lv_if_eq M.1.1 M.1.2.1 hd ht (fun q => kt q (by rw [if_pos q] at h; exact h) H locs ls hh hl) (fun q => kf q (by rw [if_neg q] at h; exact h) H locs ls hh hl)
theorem z_icmp_eq {β : Type} {X Y : Option β} {res : β} {x y : Int32} {off : Int} (tgt : Nat) (M : MX p m c cc nL s args Ts own meth ret) (hd : decode cc pc = .ok (.if_icmp .eq off, 3)) (ht : (pc : Int) + off = (tgt : Int)) (h : (if x = y then X else Y) = some res) (kt : x = y → X = some res → Zz p l e R s m args below meth c nL Q HP tgt lv st) (kf : ¬ x = y → Y = some res → Zz p l e R s m args below meth c nL Q HP (pc + 3) lv st) : Zz p l e R s m args below meth c nL Q HP pc lv (.int y :: .int x :: st) := fun H locs ls hh hl => lv_icmp_eq M.1.1 M.1.2.1 hd ht (fun q => kt q (by rw [if_pos q] at h; exact h) H locs ls hh hl) (fun q => kf q (by rw [if_neg q] at h; exact h) H locs ls hh hl)
theorem z_if_ne {β : Type} {X Y : Option β} {res : β} {x : Int32} {off : Int} (tgt : Nat) (M : MX p m c cc nL s args Ts own meth ret) (hd : decode cc pc = .ok (.ifCond .ne off, 3)) (ht : (pc : Int) + off = (tgt : Int)) (h : (if x = 0 then X else Y) = some res) (kt : ¬ x = 0 → Y = some res → Zz p l e R s m args below meth c nL Q HP tgt lv st) (kf : x = 0 → X = some res → Zz p l e R s m args below meth c nL Q HP (pc + 3) lv st) : Zz p l e R s m args below meth c nL Q HP pc lv (.int x :: st) := fun H locs ls hh hl => lv_if_ne M.1.1 M.1.2.1 hd ht (fun q => kt q (by rw [if_neg q] at h; exact h) H locs ls hh hl) (fun q => kf q (by rw [if_pos q] at h; exact h) H locs ls hh hl)
theorem z_icmp_ne {β : Type} {X Y : Option β} {res : β} {x y : Int32} {off : Int} (tgt : Nat) (M : MX p m c cc nL s args Ts own meth ret) (hd : decode cc pc = .ok (.if_icmp .ne off, 3)) (ht : (pc : Int) + off = (tgt : Int)) (h : (if x = y then X else Y) = some res) (kt : ¬ x = y → Y = some res → Zz p l e R s m args below meth c nL Q HP tgt lv st) (kf : x = y → X = some res → Zz p l e R s m args below meth c nL Q HP (pc + 3) lv st) : Zz p l e R s m args below meth c nL Q HP pc lv (.int y :: .int x :: st) := fun H locs ls hh hl => lv_icmp_ne M.1.1 M.1.2.1 hd ht (fun q => kt q (by rw [if_neg q] at h; exact h) H locs ls hh hl) (fun q => kf q (by rw [if_pos q] at h; exact h) H locs ls hh hl)
theorem z_if_lt {β : Type} {X Y : Option β} {res : β} {x : Int32} {off : Int} (tgt : Nat) (M : MX p m c cc nL s args Ts own meth ret) (hd : decode cc pc = .ok (.ifCond .lt off, 3)) (ht : (pc : Int) + off = (tgt : Int)) (h : (if x < 0 then X else Y) = some res) (kt : x < 0 → X = some res → Zz p l e R s m args below meth c nL Q HP tgt lv st) (kf : ¬ x < 0 → Y = some res → Zz p l e R s m args below meth c nL Q HP (pc + 3) lv st) : Zz p l e R s m args below meth c nL Q HP pc lv (.int x :: st) := fun H locs ls hh hl => lv_if_lt M.1.1 M.1.2.1 hd ht (fun q => kt q (by rw [if_pos q] at h; exact h) H locs ls hh hl) (fun q => kf q (by rw [if_neg q] at h; exact h) H locs ls hh hl)
theorem z_icmp_lt {β : Type} {X Y : Option β} {res : β} {x y : Int32} {off : Int} (tgt : Nat) (M : MX p m c cc nL s args Ts own meth ret) (hd : decode cc pc = .ok (.if_icmp .lt off, 3)) (ht : (pc : Int) + off = (tgt : Int)) (h : (if x < y then X else Y) = some res) (kt : x < y → X = some res → Zz p l e R s m args below meth c nL Q HP tgt lv st) (kf : ¬ x < y → Y = some res → Zz p l e R s m args below meth c nL Q HP (pc + 3) lv st) : Zz p l e R s m args below meth c nL Q HP pc lv (.int y :: .int x :: st) := fun H locs ls hh hl => lv_icmp_lt M.1.1 M.1.2.1 hd ht (fun q => kt q (by rw [if_pos q] at h; exact h) H locs ls hh hl) (fun q => kf q (by rw [if_neg q] at h; exact h) H locs ls hh hl)
theorem z_if_ge {β : Type} {X Y : Option β} {res : β} {x : Int32} {off : Int} (tgt : Nat) (M : MX p m c cc nL s args Ts own meth ret) (hd : decode cc pc = .ok (.ifCond .ge off, 3)) (ht : (pc : Int) + off = (tgt : Int)) (h : (if 0 ≤ x then X else Y) = some res) (kt : 0 ≤ x → X = some res → Zz p l e R s m args below meth c nL Q HP tgt lv st) (kf : ¬ 0 ≤ x → Y = some res → Zz p l e R s m args below meth c nL Q HP (pc + 3) lv st) : Zz p l e R s m args below meth c nL Q HP pc lv (.int x :: st) := fun H locs ls hh hl => lv_if_ge M.1.1 M.1.2.1 hd ht (fun q => kt q (by rw [if_pos q] at h; exact h) H locs ls hh hl) (fun q => kf q (by rw [if_neg q] at h; exact h) H locs ls hh hl)
theorem z_icmp_ge {β : Type} {X Y : Option β} {res : β} {x y : Int32} {off : Int} (tgt : Nat) (M : MX p m c cc nL s args Ts own meth ret) (hd : decode cc pc = .ok (.if_icmp .ge off, 3)) (ht : (pc : Int) + off = (tgt : Int)) (h : (if y ≤ x then X else Y) = some res) (kt : y ≤ x → X = some res → Zz p l e R s m args below meth c nL Q HP tgt lv st) (kf : ¬ y ≤ x → Y = some res → Zz p l e R s m args below meth c nL Q HP (pc + 3) lv st) : Zz p l e R s m args below meth c nL Q HP pc lv (.int y :: .int x :: st) := fun H locs ls hh hl => lv_icmp_ge M.1.1 M.1.2.1 hd ht (fun q => kt q (by rw [if_pos q] at h; exact h) H locs ls hh hl) (fun q => kf q (by rw [if_neg q] at h; exact h) H locs ls hh hl)
theorem z_if_gt {β : Type} {X Y : Option β} {res : β} {x : Int32} {off : Int} (tgt : Nat) (M : MX p m c cc nL s args Ts own meth ret) (hd : decode cc pc = .ok (.ifCond .gt off, 3)) (ht : (pc : Int) + off = (tgt : Int)) (h : (if 0 < x then X else Y) = some res) (kt : 0 < x → X = some res → Zz p l e R s m args below meth c nL Q HP tgt lv st) (kf : ¬ 0 < x → Y = some res → Zz p l e R s m args below meth c nL Q HP (pc + 3) lv st) : Zz p l e R s m args below meth c nL Q HP pc lv (.int x :: st) := fun H locs ls hh hl => lv_if_gt M.1.1 M.1.2.1 hd ht (fun q => kt q (by rw [if_pos q] at h; exact h) H locs ls hh hl) (fun q => kf q (by rw [if_neg q] at h; exact h) H locs ls hh hl)
theorem z_icmp_gt {β : Type} {X Y : Option β} {res : β} {x y : Int32} {off : Int} (tgt : Nat) (M : MX p m c cc nL s args Ts own meth ret) (hd : decode cc pc = .ok (.if_icmp .gt off, 3)) (ht : (pc : Int) + off = (tgt : Int)) (h : (if y < x then X else Y) = some res) (kt : y < x → X = some res → Zz p l e R s m args below meth c nL Q HP tgt lv st) (kf : ¬ y < x → Y = some res → Zz p l e R s m args below meth c nL Q HP (pc + 3) lv st) : Zz p l e R s m args below meth c nL Q HP pc lv (.int y :: .int x :: st) := fun H locs ls hh hl => lv_icmp_gt M.1.1 M.1.2.1 hd ht (fun q => kt q (by rw [if_pos q] at h; exact h) H locs ls hh hl) (fun q => kf q (by rw [if_neg q] at h; exact h) H locs ls hh hl)
theorem z_if_le {β : Type} {X Y : Option β} {res : β} {x : Int32} {off : Int} (tgt : Nat) (M : MX p m c cc nL s args Ts own meth ret) (hd : decode cc pc = .ok (.ifCond .le off, 3)) (ht : (pc : Int) + off = (tgt : Int)) (h : (if x ≤ 0 then X else Y) = some res) (kt : x ≤ 0 → X = some res → Zz p l e R s m args below meth c nL Q HP tgt lv st) (kf : ¬ x ≤ 0 → Y = some res → Zz p l e R s m args below meth c nL Q HP (pc + 3) lv st) : Zz p l e R s m args below meth c nL Q HP pc lv (.int x :: st) := fun H locs ls hh hl => lv_if_le M.1.1 M.1.2.1 hd ht (fun q => kt q (by rw [if_pos q] at h; exact h) H locs ls hh hl) (fun q => kf q (by rw [if_neg q] at h; exact h) H locs ls hh hl)
theorem z_icmp_le {β : Type} {X Y : Option β} {res : β} {x y : Int32} {off : Int} (tgt : Nat) (M : MX p m c cc nL s args Ts own meth ret) (hd : decode cc pc = .ok (.if_icmp .le off, 3)) (ht : (pc : Int) + off = (tgt : Int)) (h : (if x ≤ y then X else Y) = some res) (kt : x ≤ y → X = some res → Zz p l e R s m args below meth c nL Q HP tgt lv st) (kf : ¬ x ≤ y → Y = some res → Zz p l e R s m args below meth c nL Q HP (pc + 3) lv st) : Zz p l e R s m args below meth c nL Q HP pc lv (.int y :: .int x :: st) := fun H locs ls hh hl => lv_icmp_le M.1.1 M.1.2.1 hd ht (fun q => kt q (by rw [if_pos q] at h; exact h) H locs ls hh hl) (fun q => kf q (by rw [if_neg q] at h; exact h) H locs ls hh hl)
theorem b2i_eq {b : Bool} : b2i b = 0 ↔ b = false := by cases b <;> decide
theorem z_if_eqB {β : Type} {X Y : Option β} {res : β} {b : Bool} {off : Int} (tgt : Nat) (M : MX p m c cc nL s args Ts own meth ret) (hd : decode cc pc = .ok (.ifCond .eq off, 3)) (ht : (pc : Int) + off = (tgt : Int)) (h : (bif b then Y else X) = some res) (kt : b = false → X = some res → Zz p l e R s m args below meth c nL Q HP tgt lv st) (kf : b = true → Y = some res → Zz p l e R s m args below meth c nL Q HP (pc + 3) lv st) : Zz p l e R s m args below meth c nL Q HP pc lv (.int (b2i b) :: st) := fun H locs ls hh hl => lv_if_eq M.1.1 M.1.2.1 hd ht (fun q => by have q := b2i_eq.mp q; subst q; exact kt rfl h H locs ls hh hl) (fun q => by cases b with | false => exact absurd rfl q | true => exact kf rfl h H locs ls hh hl)
theorem z_if_neB {β : Type} {X Y : Option β} {res : β} {b : Bool} {off : Int} (tgt : Nat) (M : MX p m c cc nL s args Ts own meth ret) (hd : decode cc pc = .ok (.ifCond .ne off, 3)) (ht : (pc : Int) + off = (tgt : Int)) (h : (bif b then Y else X) = some res) (kt : b = true → Y = some res → Zz p l e R s m args below meth c nL Q HP tgt lv st) (kf : b = false → X = some res → Zz p l e R s m args below meth c nL Q HP (pc + 3) lv st) : Zz p l e R s m args below meth c nL Q HP pc lv (.int (b2i b) :: st) := fun H locs ls hh hl => lv_if_ne M.1.1 M.1.2.1 hd ht (fun q => by cases b with | false => exact absurd rfl q | true => exact kt rfl h H locs ls hh hl) (fun q => by have q := b2i_eq.mp q; subst q; exact kf rfl h H locs ls hh hl)
theorem z_ifnull {x : Nat} {off : Int} (M : MX p m c cc nL s args Ts own meth ret) (hd : decode cc pc = .ok (.ifnull off, 3)) (k : Zz p l e R s m args below meth c nL Q HP (pc + 3) lv st) : Zz p l e R s m args below meth c nL Q HP pc lv (.ref x :: st) := fun H locs ls h hl => lv_ifnull M.1.1 M.1.2.1 hd (k H locs ls h hl)
theorem z_ifnonnull {x : Nat} {off : Int} (tgt : Nat) (M : MX p m c cc nL s args Ts own meth ret) (hd : decode cc pc = .ok (.ifnonnull off, 3)) (ht : (pc : Int) + off = (tgt : Int)) (k : Zz p l e R s m args below meth c nL Q HP tgt lv st) : Zz p l e R s m args below meth c nL Q HP pc lv (.ref x :: st) := fun H locs ls h hl => lv_ifnonnull M.1.1 M.1.2.1 hd ht (k H locs ls h hl)
theorem z_ifnullN {off : Int} (tgt : Nat) (M : MX p m c cc nL s args Ts own meth ret) (hd : decode cc pc = .ok (.ifnull off, 3)) (ht : (pc : Int) + off = (tgt : Int)) (k : Zz p l e R s m args below meth c nL Q HP tgt lv st) : Zz p l e R s m args below meth c nL Q HP pc lv (.null :: st) := fun H locs ls h hl => lv_ifnullN M.1.1 M.1.2.1 hd ht (k H locs ls h hl)
theorem z_ifnonnullN {off : Int} (M : MX p m c cc nL s args Ts own meth ret) (hd : decode cc pc = .ok (.ifnonnull off, 3)) (k : Zz p l e R s m args below meth c nL Q HP (pc + 3) lv st) : Zz p l e R s m args below meth c nL Q HP pc lv (.null :: st) := fun H locs ls h hl => lv_ifnonnullN M.1.1 M.1.2.1 hd (k H locs ls h hl)
theorem z_null (M : MX p m c cc nL s args Ts own meth ret) (hd : decode cc pc = .ok (.aconst_null, 1)) (k : Zz p l e R s m args below meth c nL Q HP (pc + 1) lv (.null :: st)) : Zz p l e R s m args below meth c nL Q HP pc lv st := fun H locs ls h hl => lv_null M.1.1 M.1.2.1 hd (k H locs ls h hl)
theorem z_ldc2 {index : Nat} {v : Int64} (M : MX p m c cc nL s args Ts own meth ret) (hc : Jvm.Cond.constantLong own index v ∈ Ts) (hd : decode cc pc = .ok (.ldc2_w index, 3)) (k : Zz p l e R s m args below meth c nL Q HP (pc + 3) lv (.long v :: st)) : Zz p l e R s m args below meth c nL Q HP pc lv st := fun H locs ls h hl => lv_ldc2 M.1.1 M.1.2.1 M.1.2.2.2.1 (M.1.2.2.2.2 _ hc) hd (k H locs ls h hl)
theorem z_ldc {index : Nat} {v : Int32} (M : MX p m c cc nL s args Ts own meth ret) (hc : Jvm.Cond.constant own index v ∈ Ts) (hd : decode cc pc = .ok (.ldc index, 2)) (k : Zz p l e R s m args below meth c nL Q HP (pc + 2) lv (.int v :: st)) : Zz p l e R s m args below meth c nL Q HP pc lv st := fun H locs ls h hl => lv_ldc M.1.1 M.1.2.1 M.1.2.2.2.1 (M.1.2.2.2.2 _ hc) hd (k H locs ls h hl)
theorem z_ldcw {index : Nat} {v : Int32} (M : MX p m c cc nL s args Ts own meth ret) (hc : Jvm.Cond.constant own index v ∈ Ts) (hd : decode cc pc = .ok (.ldc_w index, 3)) (k : Zz p l e R s m args below meth c nL Q HP (pc + 3) lv (.int v :: st)) : Zz p l e R s m args below meth c nL Q HP pc lv st := fun H locs ls h hl => lv_ldcw M.1.1 M.1.2.1 M.1.2.2.2.1 (M.1.2.2.2.2 _ hc) hd (k H locs ls h hl)
theorem z_mmax {index : Nat} {x y : Int32} (M : MX p m c cc nL s args Ts own meth ret) (h1 : Cond.methodLink own index Lib.Math.max.name ∈ Ts) (h2 : Cond.static Lib.Math.max.name ∈ Ts) (h3 : Cond.initialized "java/lang/Math" ∈ Ts) (h4 : Cond.code Lib.Math.max.name Lib.Math.max.code 2 (some .int) ∈ Ts) (hf : 1 ≤ R.frames) (hloc : (st.map fun v => v.category).sum + 13 ≤ R.locals) (hd : decode cc pc = .ok (.invokestatic index, 3)) (k : Zz p l e R s m args below meth c nL Q HP (pc + 3) lv (.int (if x < y then y else x) :: st)) : Zz p l e R s m args below meth c nL Q HP pc lv (.int y :: .int x :: st) := fun H locs ls h hl => va_mmax M.1.1 M.1.2.1 (M.1.2.2.1.trans hl.1.symm) M.1.2.2.2.1 (M.1.2.2.2.2 _ h1) (M.1.2.2.2.2 _ h2) (M.1.2.2.2.2 _ h3) (M.1.2.2.2.2 _ h4) hf hloc (Nat.zero_le _) (Nat.zero_le _) hd (k H locs ls h hl)
theorem z_mmin {index : Nat} {x y : Int32} (M : MX p m c cc nL s args Ts own meth ret) (h1 : Cond.methodLink own index Lib.Math.min.name ∈ Ts) (h2 : Cond.static Lib.Math.min.name ∈ Ts) (h3 : Cond.initialized "java/lang/Math" ∈ Ts) (h4 : Cond.code Lib.Math.min.name Lib.Math.min.code 2 (some .int) ∈ Ts) (hf : 1 ≤ R.frames) (hloc : (st.map fun v => v.category).sum + 13 ≤ R.locals) (hd : decode cc pc = .ok (.invokestatic index, 3)) (k : Zz p l e R s m args below meth c nL Q HP (pc + 3) lv (.int (if y < x then y else x) :: st)) : Zz p l e R s m args below meth c nL Q HP pc lv (.int y :: .int x :: st) := fun H locs ls h hl => va_mmin M.1.1 M.1.2.1 (M.1.2.2.1.trans hl.1.symm) M.1.2.2.2.1 (M.1.2.2.2.2 _ h1) (M.1.2.2.2.2 _ h2) (M.1.2.2.2.2 _ h3) (M.1.2.2.2.2 _ h4) hf hloc (Nat.zero_le _) (Nat.zero_le _) hd (k H locs ls h hl)
theorem z_mabs {index : Nat} {x : Int64} (M : MX p m c cc nL s args Ts own meth ret) (h1 : Cond.methodLink own index Lib.MathLoose.abs_long.x ∈ Ts) (h2 : Cond.static Lib.MathLoose.abs_long.x ∈ Ts) (h3 : Cond.initialized "java/lang/Math" ∈ Ts) (h4 : Cond.code Lib.MathLoose.abs_long.x Lib.MathLoose.abs_long.code 2 (some .long) ∈ Ts) (hf : 1 ≤ R.frames) (hloc : (st.map fun v => v.category).sum + 13 ≤ R.locals) (hd : decode cc pc = .ok (.invokestatic index, 3)) (k : Zz p l e R s m args below meth c nL Q HP (pc + 3) lv (.long (if 0 < x then x else -x) :: st)) : Zz p l e R s m args below meth c nL Q HP pc lv (.long x :: st) := fun H locs ls h hl => va_mabs_long M.1.1 M.1.2.1 (M.1.2.2.1.trans hl.1.symm) M.1.2.2.2.1 (M.1.2.2.2.2 _ h1) (M.1.2.2.2.2 _ h2) (M.1.2.2.2.2 _ h3) (M.1.2.2.2.2 _ h4) hf hloc (Nat.zero_le _) (Nat.zero_le _) hd (k H locs ls h hl)
end ZR
end
section
/-! ===== rows over Zz that touch the world ===== -/
def ro (n ty r len : Nat) : Prop := r < 48 ∧ wT r = ty ∧ wL n r = len
def roO (cy ad : Nat → Nat) (n : Nat) (S : St) (r ci : Nat) (fs : List Value) : Prop := r < 48 ∧ wC cy ad n S r = .inr (ci, fs)
theorem wC_congr {cy ad : Nat → Nat} {n : Nat} {S S' : St} {q : Nat} (h1 : S'.1 q = S.1 q) (h2 : S'.2 q = S.2 q) : wC cy ad n S' q = wC cy ad n S q := by
  simp only [wC, h1, h2]
theorem wC_0 {cy ad : Nat → Nat} {n : Nat} {S : St} {r : Nat} (h : wT r = 0) : wC cy ad n S r = .inl (cy 0, wL n r, .inl (S.1 r)) := by
  simp only [wC, h]
theorem wC_1 {cy ad : Nat → Nat} {n : Nat} {S : St} {r : Nat} (h : wT r = 1) : wC cy ad n S r = .inl (cy 1, wL n r, .inr (.inl (S.2 r))) := by
  simp only [wC, h]
theorem wC_2 {cy ad : Nat → Nat} {n : Nat} {S : St} {r : Nat} (h : wT r = 2) : wC cy ad n S r = .inl (cy 2, wL n r, .inl (S.1 r)) := by
  simp only [wC, h]
theorem wC_5 {cy ad : Nat → Nat} {n : Nat} {S : St} {r : Nat} (h : wT r = 5) : wC cy ad n S r = .inr (3, [.int (nI n), .ref (ad (r + 6))]) := by
  simp only [wC, h]
theorem wC_6 {cy ad : Nat → Nat} {n : Nat} {S : St} {r : Nat} (h : wT r = 6) : wC cy ad n S r = .inr (0, [.ref (ad (r + 6)), .long (S.2 r 0), .int (S.1 r 0)]) := by
  simp only [wC, h]
theorem ro_num {n t : Nat} (h : t < 6) : ro n 0 (19 + t) (n * n) := by
  rcases (show t = 0 ∨ t = 1 ∨ t = 2 ∨ t = 3 ∨ t = 4 ∨ t = 5 by omega) with rfl | rfl | rfl | rfl | rfl | rfl <;> exact ⟨by decide, rfl, rfl⟩
theorem ro_shr {n t : Nat} (h : t < 6) : ro n 1 (31 + t) (2 ^ n) := by
  rcases (show t = 0 ∨ t = 1 ∨ t = 2 ∨ t = 3 ∨ t = 4 ∨ t = 5 by omega) with rfl | rfl | rfl | rfl | rfl | rfl <;> exact ⟨by decide, rfl, rfl⟩
theorem wT_tab {t : Nat} (h : t < 6) : wT (13 + t) = 5 := by
  rcases (show t = 0 ∨ t = 1 ∨ t = 2 ∨ t = 3 ∨ t = 4 ∨ t = 5 by omega) with rfl | rfl | rfl | rfl | rfl | rfl <;> rfl
theorem wT_law {t : Nat} (h : t < 6) : wT (25 + t) = 6 := by
  rcases (show t = 0 ∨ t = 1 ∨ t = 2 ∨ t = 3 ∨ t = 4 ∨ t = 5 by omega) with rfl | rfl | rfl | rfl | rfl | rfl <;> rfl
theorem o_tab {cy ad : Nat → Nat} {n : Nat} {S : St} {t : Nat} (h : t < 6) : roO cy ad n S (13 + t) 3 [.int (nI n), .ref (ad (19 + t))] :=
  ⟨by omega, by rw [wC_5 (wT_tab h), show 13 + t + 6 = 19 + t by omega]⟩
theorem o_law {cy ad : Nat → Nat} {n : Nat} {S : St} {t : Nat} (h : t < 6) : roO cy ad n S (25 + t) 0 [.ref (ad (31 + t)), .long (S.2 (25 + t) 0), .int (S.1 (25 + t) 0)] :=
  ⟨by omega, by rw [wC_6 (wT_law h), show 25 + t + 6 = 31 + t by omega]⟩
theorem o_obj {cy ad : Nat → Nat} {n : Nat} {S : St} : roO cy ad n S 0 4 [.int (nI n), .int (nI (2 ^ n)), .ref (ad 1), .ref (ad 2), .ref (ad 3), .ref (ad 4), .ref (ad 5), .ref (ad 6)] := ⟨by decide, rfl⟩
theorem o_net {cy ad : Nat → Nat} {n : Nat} {S : St} : roO cy ad n S 2 1 [.int (nI n), .ref (ad 7), .ref (ad 8), .ref (ad 9)] := ⟨by decide, rfl⟩
theorem o_squ {cy ad : Nat → Nat} {n : Nat} {S : St} : roO cy ad n S 6 2 [.ref (ad 10), .ref (ad 11), .int (S.1 6 0)] := ⟨by decide, rfl⟩
theorem o_mod {cy ad : Nat → Nat} {n : Nat} {S : St} : roO cy ad n S 12 5 [.int (nI n), .int (nI (2 ^ n)), .ref (ad 37), .ref (ad 38), .ref (ad 39), .ref (ad 40), .ref (ad 41), .ref (ad 42), .ref (ad 43), .ref (ad 44), .ref (ad 45), .ref (ad 46), .ref (ad 47)] := ⟨by decide, rfl⟩
theorem WW_sI {cy ad : Nat → Nat} {n : Nat} {S : St} {r k : Nat} {v : Int32} (hr : r < 48) (hT : wT r = 0) : (WW cy ad n S).set r (ad r, .inl (cy 0, wL n r, .inl (upd (S.1 r) k v))) = WW cy ad n (sI S r k v) :=
  WW_set hr (by rw [wC_0 hT]; simp only [sI, va_up_self]) (fun q hq => wC_congr (by simp only [sI, va_up_ne _ _ hq]) rfl)
theorem WW_sZ {cy ad : Nat → Nat} {n : Nat} {S : St} {r k : Nat} {v : Int32} (hr : r < 48) (hT : wT r = 2) : (WW cy ad n S).set r (ad r, .inl (cy 2, wL n r, .inl (upd (S.1 r) k v))) = WW cy ad n (sI S r k v) :=
  WW_set hr (by rw [wC_2 hT]; simp only [sI, va_up_self]) (fun q hq => wC_congr (by simp only [sI, va_up_ne _ _ hq]) rfl)
theorem WW_sC {cy ad : Nat → Nat} {n : Nat} {S : St} {r : Nat} {f : Nat → Int64} (hr : r < 48) (hT : wT r = 1) : (WW cy ad n S).set r (ad r, .inl (cy 1, wL n r, .inr (.inl f))) = WW cy ad n (sC S r f) :=
  WW_set hr (by rw [wC_1 hT]; simp only [sC, va_up_self]) (fun q hq => wC_congr rfl (by simp only [sC, va_up_ne _ _ hq]))
theorem WW_sJ {cy ad : Nat → Nat} {n : Nat} {S : St} {r k : Nat} {v : Int64} (hr : r < 48) (hT : wT r = 1) : (WW cy ad n S).set r (ad r, .inl (cy 1, wL n r, .inr (.inl (vp_updL (S.2 r) k v)))) = WW cy ad n (sJ S r k v) :=
  WW_set hr (by rw [wC_1 hT]; simp only [sJ, va_up_self]) (fun q hq => wC_congr rfl (by simp only [sJ, va_up_ne _ _ hq]))
section ZH
variable {p : Program} {l : Launch} {e : Env} {R : Room} {s : State} {m : MethodId} {args : Array Value} {below : List Frame} {meth : Method} {c : Code} {nL : Nat} {Q : State → Prop} {HP : Heap → List Loc → Prop} {cc : ByteArray} {Ts : List Cond} {own : String} {ret : Option FieldType} {pc : Nat} {lv : List (Nat × Value)} {st : List Value} {D : va_G} {cy ad : Nat → Nat} {n : Nat} {S : St}
theorem z_get {r ci : Nat} {fs : List Value} {C ref : String} {T : u_T} {N index : Nat} {v : Value} (M : MX p m c cc nL s args Ts own meth ret) (K : KK D cy ad s) (hin : ∀ w ∈ u_ws C T N, w ∈ Ts) (ho : roO cy ad n S r ci fs) (hc : vwCl[ci]? = some (C, T, N)) (k : Nat) (hk : k < N) (hlink : Cond.fieldLink own index ref (T k).2.1 (T k).2.2.1 ∈ Ts) (href : ref = (T k).1) (hv : fs[k]? = some v) (hd : decode cc pc = .ok (.getfield index, 3)) (kk : Zz p l e R s m args below meth c nL Q (Hw D cy ad n s S) (pc + 3) lv (v :: st)) : Zz p l e R s m args below meth c nL Q (Hw D cy ad n s S) pc lv (.ref (ad r) :: st) :=
  fun H locs ls h hl => va_get M.1.1 M.1.2.1 M.1.2.2.2.2 hin M.1.2.2.2.1 K.1 h.1 r (by rw [WW_at ho.1, ho.2]) hc k hk (M.1.2.2.2.2 _ hlink) (fun _ h9 => by rw [href]; exact h9) hv hd (kk H locs ls h hl)
theorem z_putW {r ci : Nat} {fs fs' : List Value} {C ref : String} {T : u_T} {N index : Nat} {v : Value} {S' : St} (M : MX p m c cc nL s args Ts own meth ret) (K : KK D cy ad s) (hin : ∀ w ∈ u_ws C T N, w ∈ Ts) (ty0 : Nat → FieldType) (hty : ∀ k, k < N → parseFieldDescriptor (T k).2.2.1 = some (ty0 k)) (hnm : ∀ a, a < N → ∀ b, b < N → a ≠ b → (T a).2.1 ≠ (T b).2.1) (ho : roO cy ad n S r ci fs) (hc : vwCl[ci]? = some (C, T, N)) (k : Nat) (hk : k < N) (hlink : Cond.fieldLink own index ref (T k).2.1 (T k).2.2.1 ∈ Ts) (href : ref = (T k).1) (hfin : (T k).2.2.2 = false) (ty : FieldType) (hdsc : parseFieldDescriptor (T k).2.2.1 = some ty) (hn : narrow ty v = v) (hfit : fits ty v = true) (hlen : k < fs.length) (ho' : roO cy ad n S' r ci fs') (hset : fs.set k v = fs') (hne : ∀ q, q ≠ r → S'.1 q = S.1 q ∧ S'.2 q = S.2 q) (hd : decode cc pc = .ok (.putfield index, 3)) (kk : Zz p l e R s m args below meth c nL Q (Hw D cy ad n s S') (pc + 3) lv st) : Zz p l e R s m args below meth c nL Q (Hw D cy ad n s S) pc lv (v :: .ref (ad r) :: st) :=
  fun H locs ls h hl => va_put (D := D) M.1.1 M.1.2.1 M.1.2.2.2.2 hin ty0 hty hnm M.1.2.2.2.1 K.1 h.1 (WW_D K.2.2) h.2 r (by rw [WW_at ho.1, ho.2]) hc k hk (M.1.2.2.2.2 _ hlink) (fun _ h9 => by rw [href]; exact h9) hfin hdsc hn hfit hlen hd (fun H1 locs1 hP1 _ hS1 => kk H1 locs1 ls ⟨by
    rw [hset, WW_set (S' := S') ho.1 ho'.2 (fun q hq => wC_congr (hne q hq).1 (hne q hq).2)] at hP1
    exact hP1, hS1⟩ hl)
theorem z_iald {β : Type} {X : Option β} {res : β} {r len : Nat} {i : Int32} (M : MX p m c cc nL s args Ts own meth ret) (K : KK D cy ad s) (hr : ro n 0 r len) (h : gd (inb i len) X = some res) (hd : decode cc pc = .ok (.iaload, 1)) (k : i.toNatClampNeg < len → X = some res → Zz p l e R s m args below meth c nL Q (Hw D cy ad n s S) (pc + 1) lv (.int (S.1 r i.toNatClampNeg) :: st)) : Zz p l e R s m args below meth c nL Q (Hw D cy ad n s S) pc lv (.int i :: .ref (ad r) :: st) :=
  fun H locs ls hh hl => va_iald M.1.1 M.1.2.1 K.1 hh.1 r 0 (by rw [WW_at hr.1, wC_0 hr.2.1]) rfl (by rw [hr.2.2]; exact (inb_in (gd_in h).1).1) hd (k (inb_in (gd_in h).1).2 (gd_in h).2 H locs ls hh hl)
theorem z_zald {β : Type} {X : Option β} {res : β} {r len : Nat} {i : Int32} (M : MX p m c cc nL s args Ts own meth ret) (K : KK D cy ad s) (hr : ro n 2 r len) (h : gd (inb i len) X = some res) (hd : decode cc pc = .ok (.baload, 1)) (k : i.toNatClampNeg < len → X = some res → Zz p l e R s m args below meth c nL Q (Hw D cy ad n s S) (pc + 1) lv (.int (S.1 r i.toNatClampNeg) :: st)) : Zz p l e R s m args below meth c nL Q (Hw D cy ad n s S) pc lv (.int i :: .ref (ad r) :: st) :=
  fun H locs ls hh hl => va_zald M.1.1 M.1.2.1 K.1 hh.1 r 2 (by rw [WW_at hr.1, wC_2 hr.2.1]) rfl (by rw [hr.2.2]; exact (inb_in (gd_in h).1).1) hd (k (inb_in (gd_in h).1).2 (gd_in h).2 H locs ls hh hl)
theorem z_lald {β : Type} {X : Option β} {res : β} {r len : Nat} {i : Int32} (M : MX p m c cc nL s args Ts own meth ret) (K : KK D cy ad s) (hr : ro n 1 r len) (h : gd (inb i len) X = some res) (hd : decode cc pc = .ok (.laload, 1)) (k : i.toNatClampNeg < len → X = some res → Zz p l e R s m args below meth c nL Q (Hw D cy ad n s S) (pc + 1) lv (.long (S.2 r i.toNatClampNeg) :: st)) : Zz p l e R s m args below meth c nL Q (Hw D cy ad n s S) pc lv (.int i :: .ref (ad r) :: st) :=
  fun H locs ls hh hl => va_lald M.1.1 M.1.2.1 K.1 hh.1 r 1 (by rw [WW_at hr.1, wC_1 hr.2.1]) rfl (by rw [hr.2.2]; exact (inb_in (gd_in h).1).1) hd (k (inb_in (gd_in h).1).2 (gd_in h).2 H locs ls hh hl)
theorem z_iast {β : Type} {X : Option β} {res : β} {r len : Nat} {i v : Int32} (M : MX p m c cc nL s args Ts own meth ret) (K : KK D cy ad s) (hr : ro n 0 r len) (h : gd (inb i len) X = some res) (hd : decode cc pc = .ok (.iastore, 1)) (k : X = some res → Zz p l e R s m args below meth c nL Q (Hw D cy ad n s (sI S r i.toNatClampNeg v)) (pc + 1) lv st) : Zz p l e R s m args below meth c nL Q (Hw D cy ad n s S) pc lv (.int v :: .int i :: .ref (ad r) :: st) :=
  fun H locs ls hh hl => va_iast M.1.1 M.1.2.1 K.1 hh.1 (WW_D K.2.2) hh.2 r 0 (by rw [WW_at hr.1, wC_0 hr.2.1]) rfl (by rw [hr.2.2]; exact (inb_in (gd_in h).1).1) hd (fun H1 locs1 hP1 _ hS1 => k (gd_in h).2 H1 locs1 ls ⟨by rw [WW_sI hr.1 hr.2.1] at hP1; exact hP1, hS1⟩ hl)
theorem z_zast1 {β : Type} {X : Option β} {res : β} {r len : Nat} {i : Int32} (M : MX p m c cc nL s args Ts own meth ret) (K : KK D cy ad s) (hr : ro n 2 r len) (h : gd (inb i len) X = some res) (hd : decode cc pc = .ok (.bastore, 1)) (k : X = some res → Zz p l e R s m args below meth c nL Q (Hw D cy ad n s (sI S r i.toNatClampNeg 1)) (pc + 1) lv st) : Zz p l e R s m args below meth c nL Q (Hw D cy ad n s S) pc lv (.int 1 :: .int i :: .ref (ad r) :: st) :=
  fun H locs ls hh hl => va_zast M.1.1 M.1.2.1 K.1 hh.1 (WW_D K.2.2) hh.2 r 2 (by rw [WW_at hr.1, wC_2 hr.2.1]) rfl (by rw [hr.2.2]; exact (inb_in (gd_in h).1).1) hd (fun H1 locs1 hP1 _ hS1 => k (gd_in h).2 H1 locs1 ls ⟨by
    rw [show vp_nar .boolean 1 = 1 from by decide, WW_sZ hr.1 hr.2.1] at hP1; exact hP1, hS1⟩ hl)
theorem z_last {β : Type} {X : Option β} {res : β} {r len : Nat} {i : Int32} {v : Int64} (M : MX p m c cc nL s args Ts own meth ret) (K : KK D cy ad s) (hr : ro n 1 r len) (h : gd (inb i len) X = some res) (hd : decode cc pc = .ok (.lastore, 1)) (k : X = some res → Zz p l e R s m args below meth c nL Q (Hw D cy ad n s (sJ S r i.toNatClampNeg v)) (pc + 1) lv st) : Zz p l e R s m args below meth c nL Q (Hw D cy ad n s S) pc lv (.long v :: .int i :: .ref (ad r) :: st) :=
  fun H locs ls hh hl => va_last M.1.1 M.1.2.1 K.1 hh.1 (WW_D K.2.2) hh.2 r 1 (by rw [WW_at hr.1, wC_1 hr.2.1]) rfl (by rw [hr.2.2]; exact (inb_in (gd_in h).1).1) hd (fun H1 locs1 hP1 _ hS1 => k (gd_in h).2 H1 locs1 ls ⟨by rw [WW_sJ hr.1 hr.2.1] at hP1; exact hP1, hS1⟩ hl)
theorem z_alenJ {r len : Nat} (M : MX p m c cc nL s args Ts own meth ret) (K : KK D cy ad s) (hr : ro n 1 r len) (hd : decode cc pc = .ok (.arraylength, 1)) (k : Zz p l e R s m args below meth c nL Q (Hw D cy ad n s S) (pc + 1) lv (.int (nI len) :: st)) : Zz p l e R s m args below meth c nL Q (Hw D cy ad n s S) pc lv (.ref (ad r) :: st) :=
  fun H locs ls hh hl => va_alen (ty := .long) (x := (wL n r, .inr (.inl (S.2 r)))) M.1.1 M.1.2.1 K.1 hh.1 r 1 (by rw [WW_at hr.1, wC_1 hr.2.1]) rfl (by rw [hr.2.2]; rfl) hd (k H locs ls hh hl)
theorem z_aaldT {β : Type} {X : Option β} {res : β} {i : Int32} (M : MX p m c cc nL s args Ts own meth ret) (K : KK D cy ad s) (h : gd (inb i 6) X = some res) (hd : decode cc pc = .ok (.aaload, 1)) (k : i.toNatClampNeg < 6 → X = some res → Zz p l e R s m args below meth c nL Q (Hw D cy ad n s S) (pc + 1) lv (.ref (ad (13 + i.toNatClampNeg)) :: st)) : Zz p l e R s m args below meth c nL Q (Hw D cy ad n s S) pc lv (.int i :: .ref (ad 1) :: st) :=
  fun H locs ls hh hl => va_aldq M.1.1 M.1.2.1 K.1 hh.1 1 4 (by rw [WW_at (by decide)]; rfl) rfl (inb_in (gd_in h).1).1 hd (k (inb_in (gd_in h).1).2 (gd_in h).2 H locs ls hh hl)
theorem z_aaldL {β : Type} {X : Option β} {res : β} {i : Int32} (M : MX p m c cc nL s args Ts own meth ret) (K : KK D cy ad s) (h : gd (inb i 6) X = some res) (hd : decode cc pc = .ok (.aaload, 1)) (k : i.toNatClampNeg < 6 → X = some res → Zz p l e R s m args below meth c nL Q (Hw D cy ad n s S) (pc + 1) lv (.ref (ad (25 + i.toNatClampNeg)) :: st)) : Zz p l e R s m args below meth c nL Q (Hw D cy ad n s S) pc lv (.int i :: .ref (ad 3) :: st) :=
  fun H locs ls hh hl => va_aldq M.1.1 M.1.2.1 K.1 hh.1 3 3 (by rw [WW_at (by decide)]; rfl) rfl (inb_in (gd_in h).1).1 hd (k (inb_in (gd_in h).1).2 (gd_in h).2 H locs ls hh hl)
def cpok (sp dp k : Int32) (n0 n1 : Nat) : Bool := !(decide (sp < 0)) && !(decide (dp < 0)) && !(decide (k < 0)) && decide (sp.toNatClampNeg + k.toNatClampNeg ≤ n0) && decide (dp.toNatClampNeg + k.toNatClampNeg ≤ n1)
theorem z_copyl {β : Type} {X : Option β} {res : β} {r0 r1 n0 n1 index : Nat} {sp dp k0 : Int32} (M : MX p m c cc nL s args Ts own meth ret) (K : KK D cy ad s) (h1 : Cond.methodLink own index arraycopyName ∈ Ts) (h2 : Cond.native arraycopyName ∈ Ts) (h3 : Cond.static arraycopyName ∈ Ts) (h4 : Cond.initialized "java/lang/System" ∈ Ts) (hr0 : ro n 1 r0 n0) (hr1 : ro n 1 r1 n1) (h : gd (cpok sp dp k0 n0 n1) X = some res) (hf : 1 ≤ R.frames) (hloc : (st.map fun v => v.category).sum + (nativeFrameWords "java/lang/System" "arraycopy" 5 + 11) ≤ R.locals) (hd : decode cc pc = .ok (.invokestatic index, 3)) (k : X = some res → Zz p l e R s m args below meth c nL Q (Hw D cy ad n s (sC S r1 (va_cpy (S.2 r0) (S.2 r1) sp.toNatClampNeg dp.toNatClampNeg k0.toNatClampNeg))) (pc + 3) lv st) : Zz p l e R s m args below meth c nL Q (Hw D cy ad n s S) pc lv (.int k0 :: .int dp :: .ref (ad r1) :: .int sp :: .ref (ad r0) :: st) := by
  intro H locs ls hh hl
  have hg := (gd_in h).1
  simp only [cpok, Bool.and_eq_true, Bool.not_eq_true', decide_eq_false_iff_not, decide_eq_true_eq] at hg
  obtain ⟨⟨⟨⟨g1, g2⟩, g3⟩, g4⟩, g5⟩ := hg
  refine va_copyl (ty := .long) M.1.1 M.1.2.1 (M.1.2.2.1.trans hl.1.symm) M.1.2.2.2.1 (M.1.2.2.2.2 _ h1) (M.1.2.2.2.2 _ h2) (M.1.2.2.2.2 _ h3) (M.1.2.2.2.2 _ h4) K.1 hh.1 (WW_D K.2.2) hh.2 r0 r1 1 1 (by rw [WW_at hr0.1, wC_1 hr0.2.1]) (by rw [WW_at hr1.1, wC_1 hr1.2.1]) rfl rfl rfl g1 g2 g3 (by rw [hr0.2.2]; exact g4) (by rw [hr1.2.2]; exact g5) (fun _ _ => rfl) hf hloc hd (fun H1 locs1 hP1 _ hS1 => k (gd_in h).2 H1 locs1 ls ⟨by rw [WW_sC hr1.1 hr1.2.1] at hP1; exact hP1, hS1⟩ hl)
/-! ===== calls ===== -/
theorem z_run {rv : Option Value} {S' : St} {free : Addr → Prop} {H : Heap} {locs : List Loc} {ls : Array Slot} {stk : List Value} (hr : va_Run p l e R s m args below meth c H locs 0 0 0 0 (F0 m pc ls stk) st (fun st oc t => oc = .returned rv ∧ va_P D vwCl (WW cy ad n S') t.heap ∧ va_F (Aw ad) st t) (Aw ad)) (hh : Hw D cy ad n s S H locs) (hl : lv_has ls nL lv) (k : Zz p l e R s m args below meth c nL Q (Hw D cy ad n s S') (pc + 3) lv (rv.toList ++ st)) : W p l e R s m args below meth c H locs 0 0 Q (F0 m pc ls stk) := by
  intro T hT X
  obtain ⟨v, st₀, t, T', L, h0, X', hL, e1, e2, ⟨hv, hP', hz, hk⟩, stp⟩ := hr T hT X
  cases hv
  rw [h0] at hz hk
  have hS := hh.2
  obtain ⟨t2, a1, b1⟩ := k T'.heap (locs ++ L) ls ⟨by rw [e1]; exact hP', Nat.le_trans hS.1 (by rw [e1]; exact hz), fun q h1 h2 => by rw [e1, hk q (Nat.lt_of_lt_of_le h1 hS.1) h2]; exact hS.2.1 q h1 h2, fun q hq => by
      rcases List.mem_append.mp hq with h | h
      · exact hS.2.2 q h
      · exact hL q h⟩ hl T' rfl X'
  exact ⟨t2, stp t2 a1, b1⟩
theorem z_vcallO {rv : Option Value} {S' : St} {y : MethodName} {ws : List Cond} {rm : Room} {r ci N index maxL nn : Nat} {fs : List Value} {C : String} {T : u_T} {bytes : ByteArray} {ret' : Option FieldType} {As stk : List Value} (M : MX p m c cc nL s args Ts own meth ret) (K : KK D cy ad s) (hc : CW l D cy ad n y ws rm (.ref (ad r) :: As) S rv S') (cw : CallW R s args own C index y bytes maxL ret' ws rm 0 0 nn) (ho : roO cy ad n S r ci fs) (hcl : vwCl[ci]? = some (C, T, N)) (hn : As.length = nn) (hst : stk = As.reverse ++ .ref (ad r) :: st) (hW : (st.map fun v => v.category).sum ≤ 8) (hd : decode cc pc = .ok (.invokevirtual index, 3)) (k : Zz p l e R s m args below meth c nL Q (Hw D cy ad n s S') (pc + 3) lv (rv.toList ++ st)) : Zz p l e R s m args below meth c nL Q (Hw D cy ad n s S) pc lv stk := by
  intro H locs ls hh hl
  have hrun := va_runV (p := p) (e := e) (R := R) (s := s) (m := m) (args := args) (below := below) (meth := meth) (c := c) (H := H) (locs := locs) (cells := 0) (slots := 0) (rest := st) (g := F0 m pc ls stk) (As := As) (b := ad r) M.1 hc cw ⟨fun a U g mk q => ⟨q.1, q.2.1, q.2.2.calling⟩, va_recv K.1 hh.1 hcl (by rw [WW_at ho.1, ho.2]), fun U hU hW => ⟨rfl, by rw [hU]; exact hh.1, K.moved hW⟩⟩ rfl hn hl.1 hst (lv_room hW) hd ⟨Nat.zero_le _, Nat.zero_le _⟩
  exact z_run (free := Aw ad) hrun hh hl k
theorem z_vcall {v : Value} {S' : St} {y : MethodName} {ws : List Cond} {rm : Room} {r ci N index maxL nn : Nat} {fs : List Value} {C : String} {T : u_T} {bytes : ByteArray} {ret' : Option FieldType} {As stk : List Value} (M : MX p m c cc nL s args Ts own meth ret) (K : KK D cy ad s) (hc : CW l D cy ad n y ws rm (.ref (ad r) :: As) S (some v) S') (cw : CallW R s args own C index y bytes maxL ret' ws rm 0 0 nn) (ho : roO cy ad n S r ci fs) (hcl : vwCl[ci]? = some (C, T, N)) (hn : As.length = nn) (hst : stk = As.reverse ++ .ref (ad r) :: st) (hW : (st.map fun v => v.category).sum ≤ 8) (hd : decode cc pc = .ok (.invokevirtual index, 3)) (k : Zz p l e R s m args below meth c nL Q (Hw D cy ad n s S') (pc + 3) lv (v :: st)) : Zz p l e R s m args below meth c nL Q (Hw D cy ad n s S) pc lv stk :=
  z_vcallO M K hc cw ho hcl hn hst hW hd k
theorem z_vcallV {S' : St} {y : MethodName} {ws : List Cond} {rm : Room} {r ci N index maxL nn : Nat} {fs : List Value} {C : String} {T : u_T} {bytes : ByteArray} {ret' : Option FieldType} {As stk : List Value} (M : MX p m c cc nL s args Ts own meth ret) (K : KK D cy ad s) (hc : CW l D cy ad n y ws rm (.ref (ad r) :: As) S none S') (cw : CallW R s args own C index y bytes maxL ret' ws rm 0 0 nn) (ho : roO cy ad n S r ci fs) (hcl : vwCl[ci]? = some (C, T, N)) (hn : As.length = nn) (hst : stk = As.reverse ++ .ref (ad r) :: st) (hW : (st.map fun v => v.category).sum ≤ 8) (hd : decode cc pc = .ok (.invokevirtual index, 3)) (k : Zz p l e R s m args below meth c nL Q (Hw D cy ad n s S') (pc + 3) lv st) : Zz p l e R s m args below meth c nL Q (Hw D cy ad n s S) pc lv stk :=
  z_vcallO M K hc cw ho hcl hn hst hW hd k
theorem z_runP {v : Value} {H : Heap} {locs : List Loc} {ls : Array Slot} {stk : List Value} (hr : va_Run p l e R s m args below meth c H locs 0 0 0 0 (F0 m pc ls stk) st (fun st oc t => oc = .returned (some v) ∧ t.heap = st.heap) (fun _ => False)) (hh : HP H locs) (hl : lv_has ls nL lv) (k : Zz p l e R s m args below meth c nL Q HP (pc + 3) lv (v :: st)) : W p l e R s m args below meth c H locs 0 0 Q (F0 m pc ls stk) := by
  intro T hT X
  obtain ⟨v', st₀, t, T', L, h0, X', hL, e1, e2, ⟨hv, hh2⟩, stp⟩ := hr T hT X
  cases hv
  obtain ⟨t2, a1, b1⟩ := k H locs ls hh hl T' (by rw [e1, hh2, h0]) (Stand.forget X' (fun q h => (hL q h).elim))
  exact ⟨t2, stp t2 a1, b1⟩
theorem z_scall {v : Value} {y : MethodName} {ws : List Cond} {rm : Room} {index maxL nn : Nat} {bytes : ByteArray} {ret' : Option FieldType} {As stk : List Value} (M : MX p m c cc nL s args Ts own meth ret) (hc : CP l y ws rm As (some v)) (cw : CallB R s args own index y bytes maxL ret' ws rm 0 0 nn ∧ (Cond.static y).before args s = true) (hn : As.length = nn) (hst : stk = As.reverse ++ st) (hW : (st.map fun v => v.category).sum ≤ 8) (hd : decode cc pc = .ok (.invokestatic index, 3)) (k : Zz p l e R s m args below meth c nL Q HP (pc + 3) lv (v :: st)) : Zz p l e R s m args below meth c nL Q HP pc lv stk := by
  intro H locs ls hh hl
  have hrun := va_runS (p := p) (e := e) (R := R) (s := s) (m := m) (args := args) (below := below) (meth := meth) (c := c) (H := H) (locs := locs) (cells := 0) (slots := 0) (rest := st) (g := F0 m pc ls stk) (As := As) M.1 hc cw ⟨fun a U g mk q => q, fun U hU hW => rfl⟩ rfl hn hl.1 hst (lv_room hW) hd ⟨Nat.zero_le _, Nat.zero_le _⟩
  exact z_runP hrun hh hl k
theorem z_ncall {v : Value} {y : MethodName} {ws : List Cond} {rm : Room} {index maxL nn : Nat} {bytes : ByteArray} {host : String} {ret' : Option FieldType} {As stk : List Value} (M : MX p m c cc nL s args Ts own meth ret) (hc : CP l y ws rm As (some v)) (cw : va_CN R s args own index y host bytes maxL ret' ws rm 0 0 nn ∧ (Cond.static y).before args s = true ∧ True) (hn : As.length = nn) (hst : stk = As.reverse ++ st) (hW : (st.map fun v => v.category).sum ≤ 8) (hd : decode cc pc = .ok (.invokestatic index, 3)) (k : Zz p l e R s m args below meth c nL Q HP (pc + 3) lv (v :: st)) : Zz p l e R s m args below meth c nL Q HP pc lv stk := by
  intro H locs ls hh hl
  have hrun := va_runSN (p := p) (e := e) (R := R) (s := s) (m := m) (args := args) (below := below) (meth := meth) (c := c) (H := H) (locs := locs) (cells := 0) (slots := 0) (rest := st) (g := F0 m pc ls stk) (As := As) M.1 hc cw ⟨fun a U g mk q => q, fun U hU hW => rfl⟩ rfl hn hl.1 hst (lv_room hW) hd ⟨Nat.zero_le _, Nat.zero_le _⟩
  exact z_runP hrun hh hl k
/-! ===== returns ===== -/
theorem z_iretP {x r : Int32} (M : MX p m c cc nL s args Ts own meth (some .int)) (h : some x = some r) (hd : decode cc pc = .ok (.ireturn, 1)) : Zz p l e R s m args below meth c nL (Qp below args s (some (.int r))) (Hp s) pc lv [.int x] := fun H locs ls hh hl => by
  cases h
  exact W.iret M.1.1 M.1.2.1 M.2.1 (fun t ht hW => ⟨rfl, ht.trans hh.1⟩) (fun q hq => by rw [hh.2] at hq; cases hq) hd M.2.2
theorem z_zretP {x : Int32} {b r : Bool} (M : MX p m c cc nL s args Ts own meth (some .boolean)) (h : some b = some r) (hx : x = b2i b) (hd : decode cc pc = .ok (.ireturn, 1)) : Zz p l e R s m args below meth c nL (Qp below args s (some (.int (b2i r)))) (Hp s) pc lv [.int x] := fun H locs ls hh hl => by
  cases h
  subst hx
  exact W.zret M.1.1 M.1.2.1 M.2.1 (by cases b <;> decide) (fun t ht hW => ⟨rfl, ht.trans hh.1⟩) (fun q hq => by rw [hh.2] at hq; cases hq) hd M.2.2
theorem z_lretP {x r : Int64} (M : MX p m c cc nL s args Ts own meth (some .long)) (h : some x = some r) (hd : decode cc pc = .ok (.lreturn, 1)) : Zz p l e R s m args below meth c nL (Qp below args s (some (.long r))) (Hp s) pc lv [.long x] := fun H locs ls hh hl => by
  cases h
  exact W.lret M.1.1 M.1.2.1 M.2.1 (fun t ht hW => ⟨rfl, ht.trans hh.1⟩) (fun q hq => by rw [hh.2] at hq; cases hq) hd M.2.2
theorem z_iretW {x r : Int32} {S' : St} (M : MX p m c cc nL s args Ts own meth (some .int)) (h : x = r) (h2 : S = S') (hd : decode cc pc = .ok (.ireturn, 1)) : Zz p l e R s m args below meth c nL (Qw D cy ad n below args s (some (.int r)) S') (Hw D cy ad n s S) pc lv [.int x] := fun H locs ls hh hl => by
  subst h
  subst h2
  exact W.iret M.1.1 M.1.2.1 M.2.1 (fun t ht hW => ⟨rfl, by rw [ht]; exact hh.1, hh.2.F ht⟩) hh.2.2.2 hd M.2.2
theorem z_zretW {x : Int32} {b r : Bool} {S' : St} (M : MX p m c cc nL s args Ts own meth (some .boolean)) (h : b = r) (h2 : S = S') (hx : x = b2i b) (hd : decode cc pc = .ok (.ireturn, 1)) : Zz p l e R s m args below meth c nL (Qw D cy ad n below args s (some (.int (b2i r))) S') (Hw D cy ad n s S) pc lv [.int x] := fun H locs ls hh hl => by
  subst h
  subst h2
  subst hx
  exact W.zret M.1.1 M.1.2.1 M.2.1 (by cases b <;> decide) (fun t ht hW => ⟨rfl, by rw [ht]; exact hh.1, hh.2.F ht⟩) hh.2.2.2 hd M.2.2
theorem z_lretW {x r : Int64} {S' : St} (M : MX p m c cc nL s args Ts own meth (some .long)) (h : x = r) (h2 : S = S') (hd : decode cc pc = .ok (.lreturn, 1)) : Zz p l e R s m args below meth c nL (Qw D cy ad n below args s (some (.long r)) S') (Hw D cy ad n s S) pc lv [.long x] := fun H locs ls hh hl => by
  subst h
  subst h2
  exact W.lret M.1.1 M.1.2.1 M.2.1 (fun t ht hW => ⟨rfl, by rw [ht]; exact hh.1, hh.2.F ht⟩) hh.2.2.2 hd M.2.2
theorem z_vretW {S' : St} (M : MX p m c cc nL s args Ts own meth none) (h2 : S = S') (hd : decode cc pc = .ok (.return_, 1)) : Zz p l e R s m args below meth c nL (Qw D cy ad n below args s none S') (Hw D cy ad n s S) pc lv [] := fun H locs ls hh hl => by
  subst h2
  exact W.vret M.1.1 M.1.2.1 M.2.1 (fun t ht hW => ⟨rfl, by rw [ht]; exact hh.1, hh.2.F ht⟩) hh.2.2.2 hd M.2.2
/-- a law's reference, or none -/
def vL (ad : Nat → Nat) (o : Option Nat) : Value := match o with
  | none => .null
  | some t => .ref (ad (25 + t))
theorem z_aretW {v : Value} {o r : Option Nat} {S' : St} (M : MX p m c cc nL s args Ts own meth (some (.object "ShunLots$Law"))) (h : o = r) (h2 : S = S') (hx : v = vL ad o) (hd : decode cc pc = .ok (.areturn, 1)) : Zz p l e R s m args below meth c nL (Qw D cy ad n below args s (some (vL ad r)) S') (Hw D cy ad n s S) pc lv [v] := fun H locs ls hh hl => by
  subst h
  subst h2
  subst hx
  exact W.aret M.1.1 M.1.2.1 M.2.1 (Or.inl ⟨_, rfl⟩) (by cases o; exact Or.inl rfl; exact Or.inr ⟨_, rfl⟩) (fun t ht hW => ⟨rfl, by rw [ht]; exact hh.1, hh.2.F ht⟩) hh.2.2.2 hd M.2.2
end ZH
end
