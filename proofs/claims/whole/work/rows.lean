section
-- ===== PART A: goes FIRST, ahead of the names: the tables' words, and 'selects' of the private methods out of them =====
/-- a private method of a class that the tables say can be made, by its rows of tables_1 -/
def lw_okq (q : MethodName × Nat) : Prop := (q.1.cls ≠ "java/lang/invoke/MethodHandle" ∧ q.1.cls ≠ "java/lang/invoke/VarHandle") ∧ Cond.instantiable q.1.cls q.2 ∈ tables_1 ∧ Cond.privateMethod q.1 ∈ tables_1 ∧ Cond.instanceMethod q.1 ∈ tables_1
theorem lw_p0 : lw_okq (⟨"MirrorNodes$Acts", "forgetOldest", "()V"⟩, 4) := ⟨⟨by decide +kernel, by decide +kernel⟩, List.mem_of_getElem? (i := 77) (by decide +kernel), List.mem_of_getElem? (i := 189) (by decide +kernel), List.mem_of_getElem? (i := 190) (by decide +kernel)⟩
theorem lw_p1 : lw_okq (⟨"MirrorNodes$Catalogue", "longestBehind", "(II)I"⟩, 11) := ⟨⟨by decide +kernel, by decide +kernel⟩, List.mem_of_getElem? (i := 20) (by decide +kernel), List.mem_of_getElem? (i := 200) (by decide +kernel), List.mem_of_getElem? (i := 201) (by decide +kernel)⟩
theorem lw_p2 : lw_okq (⟨"MirrorNodes$Catalogue", "create", "(II)I"⟩, 11) := ⟨⟨by decide +kernel, by decide +kernel⟩, List.mem_of_getElem? (i := 20) (by decide +kernel), List.mem_of_getElem? (i := 207) (by decide +kernel), List.mem_of_getElem? (i := 208) (by decide +kernel)⟩
theorem lw_p3 : lw_okq (⟨"MirrorNodes", "isPlace", "(I)Z"⟩, 9) := ⟨⟨by decide +kernel, by decide +kernel⟩, List.mem_of_getElem? (i := 12) (by decide +kernel), List.mem_of_getElem? (i := 231) (by decide +kernel), List.mem_of_getElem? (i := 232) (by decide +kernel)⟩
theorem lw_p4 : lw_okq (⟨"MirrorNodes$Catalogue", "shorten", "(I)V"⟩, 11) := ⟨⟨by decide +kernel, by decide +kernel⟩, List.mem_of_getElem? (i := 20) (by decide +kernel), List.mem_of_getElem? (i := 239) (by decide +kernel), List.mem_of_getElem? (i := 240) (by decide +kernel)⟩
theorem lw_p5 : lw_okq (⟨"MirrorNodes", "isNode", "(I)Z"⟩, 9) := ⟨⟨by decide +kernel, by decide +kernel⟩, List.mem_of_getElem? (i := 12) (by decide +kernel), List.mem_of_getElem? (i := 264) (by decide +kernel), List.mem_of_getElem? (i := 265) (by decide +kernel)⟩
theorem lw_p6 : lw_okq (⟨"MirrorNodes$Cutting", "reachFrom", "(ILMirrorNodes$Catalogue;Z)V"⟩, 2) := ⟨⟨by decide +kernel, by decide +kernel⟩, List.mem_of_getElem? (i := 97) (by decide +kernel), List.mem_of_getElem? (i := 338) (by decide +kernel), List.mem_of_getElem? (i := 339) (by decide +kernel)⟩
theorem lw_p7 : lw_okq (⟨"MirrorNodes", "fewestFills", "()I"⟩, 9) := ⟨⟨by decide +kernel, by decide +kernel⟩, List.mem_of_getElem? (i := 12) (by decide +kernel), List.mem_of_getElem? (i := 370) (by decide +kernel), List.mem_of_getElem? (i := 371) (by decide +kernel)⟩
theorem lw_p8 : lw_okq (⟨"MirrorNodes$Catalogue", "around", "(I)I"⟩, 11) := ⟨⟨by decide +kernel, by decide +kernel⟩, List.mem_of_getElem? (i := 20) (by decide +kernel), List.mem_of_getElem? (i := 385) (by decide +kernel), List.mem_of_getElem? (i := 386) (by decide +kernel)⟩
theorem lw_p9 : lw_okq (⟨"MirrorNodes", "growMost", "(I)I"⟩, 9) := ⟨⟨by decide +kernel, by decide +kernel⟩, List.mem_of_getElem? (i := 12) (by decide +kernel), List.mem_of_getElem? (i := 397) (by decide +kernel), List.mem_of_getElem? (i := 398) (by decide +kernel)⟩
theorem lw_p10 : lw_okq (⟨"MirrorNodes", "startRows", "(I)V"⟩, 9) := ⟨⟨by decide +kernel, by decide +kernel⟩, List.mem_of_getElem? (i := 12) (by decide +kernel), List.mem_of_getElem? (i := 404) (by decide +kernel), List.mem_of_getElem? (i := 405) (by decide +kernel)⟩
theorem lw_p11 : lw_okq (⟨"MirrorNodes", "stepRow", "(I)V"⟩, 9) := ⟨⟨by decide +kernel, by decide +kernel⟩, List.mem_of_getElem? (i := 12) (by decide +kernel), List.mem_of_getElem? (i := 413) (by decide +kernel), List.mem_of_getElem? (i := 414) (by decide +kernel)⟩
theorem lw_p12 : lw_okq (⟨"MirrorNodes", "rowsThatBring", "(II)I"⟩, 9) := ⟨⟨by decide +kernel, by decide +kernel⟩, List.mem_of_getElem? (i := 12) (by decide +kernel), List.mem_of_getElem? (i := 421) (by decide +kernel), List.mem_of_getElem? (i := 422) (by decide +kernel)⟩
theorem lw_p13 : lw_okq (⟨"MirrorNodes$Sheet", "narrowed", "(J)J"⟩, 3) := ⟨⟨by decide +kernel, by decide +kernel⟩, List.mem_of_getElem? (i := 127) (by decide +kernel), List.mem_of_getElem? (i := 496) (by decide +kernel), List.mem_of_getElem? (i := 497) (by decide +kernel)⟩
theorem lw_p14 : lw_okq (⟨"MirrorNodesModel", "note", "(I)V"⟩, 18) := ⟨⟨by decide +kernel, by decide +kernel⟩, List.mem_of_getElem? (i := 529) (by decide +kernel), List.mem_of_getElem? (i := 602) (by decide +kernel), List.mem_of_getElem? (i := 603) (by decide +kernel)⟩
theorem lw_p15 : lw_okq (⟨"MirrorNodesModel", "push", "(I)V"⟩, 18) := ⟨⟨by decide +kernel, by decide +kernel⟩, List.mem_of_getElem? (i := 529) (by decide +kernel), List.mem_of_getElem? (i := 609) (by decide +kernel), List.mem_of_getElem? (i := 610) (by decide +kernel)⟩
def lw_privs_1 : List (MethodName × Nat) := [(⟨"MirrorNodes$Acts", "forgetOldest", "()V"⟩, 4), (⟨"MirrorNodes$Catalogue", "longestBehind", "(II)I"⟩, 11), (⟨"MirrorNodes$Catalogue", "create", "(II)I"⟩, 11), (⟨"MirrorNodes", "isPlace", "(I)Z"⟩, 9), (⟨"MirrorNodes$Catalogue", "shorten", "(I)V"⟩, 11), (⟨"MirrorNodes", "isNode", "(I)Z"⟩, 9), (⟨"MirrorNodes$Cutting", "reachFrom", "(ILMirrorNodes$Catalogue;Z)V"⟩, 2), (⟨"MirrorNodes", "fewestFills", "()I"⟩, 9), (⟨"MirrorNodes$Catalogue", "around", "(I)I"⟩, 11), (⟨"MirrorNodes", "growMost", "(I)I"⟩, 9), (⟨"MirrorNodes", "startRows", "(I)V"⟩, 9), (⟨"MirrorNodes", "stepRow", "(I)V"⟩, 9), (⟨"MirrorNodes", "rowsThatBring", "(II)I"⟩, 9), (⟨"MirrorNodes$Sheet", "narrowed", "(J)J"⟩, 3), (⟨"MirrorNodesModel", "note", "(I)V"⟩, 18), (⟨"MirrorNodesModel", "push", "(I)V"⟩, 18)]
theorem lw_r1 : ∀ q ∈ lw_privs_1, lw_okq q := List.forall_mem_cons.mpr ⟨lw_p0, List.forall_mem_cons.mpr ⟨lw_p1, List.forall_mem_cons.mpr ⟨lw_p2, List.forall_mem_cons.mpr ⟨lw_p3, List.forall_mem_cons.mpr ⟨lw_p4, List.forall_mem_cons.mpr ⟨lw_p5, List.forall_mem_cons.mpr ⟨lw_p6, List.forall_mem_cons.mpr ⟨lw_p7, List.forall_mem_cons.mpr ⟨lw_p8, List.forall_mem_cons.mpr ⟨lw_p9, List.forall_mem_cons.mpr ⟨lw_p10, List.forall_mem_cons.mpr ⟨lw_p11, List.forall_mem_cons.mpr ⟨lw_p12, List.forall_mem_cons.mpr ⟨lw_p13, List.forall_mem_cons.mpr ⟨lw_p14, List.forall_mem_cons.mpr ⟨lw_p15, fun _ h => absurd h List.not_mem_nil⟩⟩⟩⟩⟩⟩⟩⟩⟩⟩⟩⟩⟩⟩⟩⟩
theorem lw_p16 : lw_okq (⟨"MirrorNodesModel", "endsBelow", "(II)I"⟩, 18) := ⟨⟨by decide +kernel, by decide +kernel⟩, List.mem_of_getElem? (i := 529) (by decide +kernel), List.mem_of_getElem? (i := 613) (by decide +kernel), List.mem_of_getElem? (i := 614) (by decide +kernel)⟩
theorem lw_p17 : lw_okq (⟨"MirrorNodesModel", "isMirror", "(II)Z"⟩, 18) := ⟨⟨by decide +kernel, by decide +kernel⟩, List.mem_of_getElem? (i := 529) (by decide +kernel), List.mem_of_getElem? (i := 617) (by decide +kernel), List.mem_of_getElem? (i := 618) (by decide +kernel)⟩
theorem lw_p18 : lw_okq (⟨"MirrorNodesModel", "lay", "()V"⟩, 18) := ⟨⟨by decide +kernel, by decide +kernel⟩, List.mem_of_getElem? (i := 529) (by decide +kernel), List.mem_of_getElem? (i := 641) (by decide +kernel), List.mem_of_getElem? (i := 642) (by decide +kernel)⟩
theorem lw_p19 : lw_okq (⟨"MirrorNodesModel", "isNew", "(I)Z"⟩, 18) := ⟨⟨by decide +kernel, by decide +kernel⟩, List.mem_of_getElem? (i := 529) (by decide +kernel), List.mem_of_getElem? (i := 645) (by decide +kernel), List.mem_of_getElem? (i := 646) (by decide +kernel)⟩
theorem lw_p20 : lw_okq (⟨"MirrorNodesModel", "isSame", "(III)Z"⟩, 18) := ⟨⟨by decide +kernel, by decide +kernel⟩, List.mem_of_getElem? (i := 529) (by decide +kernel), List.mem_of_getElem? (i := 649) (by decide +kernel), List.mem_of_getElem? (i := 650) (by decide +kernel)⟩
theorem lw_p21 : lw_okq (⟨"MirrorNodesModel", "stands", "(III)I"⟩, 18) := ⟨⟨by decide +kernel, by decide +kernel⟩, List.mem_of_getElem? (i := 529) (by decide +kernel), List.mem_of_getElem? (i := 654) (by decide +kernel), List.mem_of_getElem? (i := 655) (by decide +kernel)⟩
theorem lw_p22 : lw_okq (⟨"MirrorNodesModel", "link", "(I)I"⟩, 18) := ⟨⟨by decide +kernel, by decide +kernel⟩, List.mem_of_getElem? (i := 529) (by decide +kernel), List.mem_of_getElem? (i := 658) (by decide +kernel), List.mem_of_getElem? (i := 659) (by decide +kernel)⟩
theorem lw_p23 : lw_okq (⟨"MirrorNodesModel", "nodeOf", "(II)I"⟩, 18) := ⟨⟨by decide +kernel, by decide +kernel⟩, List.mem_of_getElem? (i := 529) (by decide +kernel), List.mem_of_getElem? (i := 662) (by decide +kernel), List.mem_of_getElem? (i := 663) (by decide +kernel)⟩
theorem lw_p24 : lw_okq (⟨"MirrorNodesModel", "less", "(I)I"⟩, 18) := ⟨⟨by decide +kernel, by decide +kernel⟩, List.mem_of_getElem? (i := 529) (by decide +kernel), List.mem_of_getElem? (i := 666) (by decide +kernel), List.mem_of_getElem? (i := 667) (by decide +kernel)⟩
theorem lw_p25 : lw_okq (⟨"MirrorNodesModel", "series", "(I)I"⟩, 18) := ⟨⟨by decide +kernel, by decide +kernel⟩, List.mem_of_getElem? (i := 529) (by decide +kernel), List.mem_of_getElem? (i := 670) (by decide +kernel), List.mem_of_getElem? (i := 671) (by decide +kernel)⟩
theorem lw_p26 : lw_okq (⟨"MirrorNodesModel", "isImaged", "(III)Z"⟩, 18) := ⟨⟨by decide +kernel, by decide +kernel⟩, List.mem_of_getElem? (i := 529) (by decide +kernel), List.mem_of_getElem? (i := 686) (by decide +kernel), List.mem_of_getElem? (i := 687) (by decide +kernel)⟩
theorem lw_p27 : lw_okq (⟨"MirrorNodesModel", "layCuts", "(II)V"⟩, 18) := ⟨⟨by decide +kernel, by decide +kernel⟩, List.mem_of_getElem? (i := 529) (by decide +kernel), List.mem_of_getElem? (i := 702) (by decide +kernel), List.mem_of_getElem? (i := 703) (by decide +kernel)⟩
theorem lw_p28 : lw_okq (⟨"MirrorNodesModel", "unlike", "(II)I"⟩, 18) := ⟨⟨by decide +kernel, by decide +kernel⟩, List.mem_of_getElem? (i := 529) (by decide +kernel), List.mem_of_getElem? (i := 715) (by decide +kernel), List.mem_of_getElem? (i := 716) (by decide +kernel)⟩
theorem lw_p29 : lw_okq (⟨"MirrorNodesModel", "fill", "()I"⟩, 18) := ⟨⟨by decide +kernel, by decide +kernel⟩, List.mem_of_getElem? (i := 529) (by decide +kernel), List.mem_of_getElem? (i := 723) (by decide +kernel), List.mem_of_getElem? (i := 724) (by decide +kernel)⟩
theorem lw_p30 : lw_okq (⟨"MirrorNodesModel", "isTurned", "(I)Z"⟩, 18) := ⟨⟨by decide +kernel, by decide +kernel⟩, List.mem_of_getElem? (i := 529) (by decide +kernel), List.mem_of_getElem? (i := 731) (by decide +kernel), List.mem_of_getElem? (i := 732) (by decide +kernel)⟩
theorem lw_p31 : lw_okq (⟨"MirrorNodesModel", "more", "(II)I"⟩, 18) := ⟨⟨by decide +kernel, by decide +kernel⟩, List.mem_of_getElem? (i := 529) (by decide +kernel), List.mem_of_getElem? (i := 747) (by decide +kernel), List.mem_of_getElem? (i := 748) (by decide +kernel)⟩
def lw_privs_2 : List (MethodName × Nat) := [(⟨"MirrorNodesModel", "endsBelow", "(II)I"⟩, 18), (⟨"MirrorNodesModel", "isMirror", "(II)Z"⟩, 18), (⟨"MirrorNodesModel", "lay", "()V"⟩, 18), (⟨"MirrorNodesModel", "isNew", "(I)Z"⟩, 18), (⟨"MirrorNodesModel", "isSame", "(III)Z"⟩, 18), (⟨"MirrorNodesModel", "stands", "(III)I"⟩, 18), (⟨"MirrorNodesModel", "link", "(I)I"⟩, 18), (⟨"MirrorNodesModel", "nodeOf", "(II)I"⟩, 18), (⟨"MirrorNodesModel", "less", "(I)I"⟩, 18), (⟨"MirrorNodesModel", "series", "(I)I"⟩, 18), (⟨"MirrorNodesModel", "isImaged", "(III)Z"⟩, 18), (⟨"MirrorNodesModel", "layCuts", "(II)V"⟩, 18), (⟨"MirrorNodesModel", "unlike", "(II)I"⟩, 18), (⟨"MirrorNodesModel", "fill", "()I"⟩, 18), (⟨"MirrorNodesModel", "isTurned", "(I)Z"⟩, 18), (⟨"MirrorNodesModel", "more", "(II)I"⟩, 18)]
theorem lw_r2 : ∀ q ∈ lw_privs_2, lw_okq q := List.forall_mem_cons.mpr ⟨lw_p16, List.forall_mem_cons.mpr ⟨lw_p17, List.forall_mem_cons.mpr ⟨lw_p18, List.forall_mem_cons.mpr ⟨lw_p19, List.forall_mem_cons.mpr ⟨lw_p20, List.forall_mem_cons.mpr ⟨lw_p21, List.forall_mem_cons.mpr ⟨lw_p22, List.forall_mem_cons.mpr ⟨lw_p23, List.forall_mem_cons.mpr ⟨lw_p24, List.forall_mem_cons.mpr ⟨lw_p25, List.forall_mem_cons.mpr ⟨lw_p26, List.forall_mem_cons.mpr ⟨lw_p27, List.forall_mem_cons.mpr ⟨lw_p28, List.forall_mem_cons.mpr ⟨lw_p29, List.forall_mem_cons.mpr ⟨lw_p30, List.forall_mem_cons.mpr ⟨lw_p31, fun _ h => absurd h List.not_mem_nil⟩⟩⟩⟩⟩⟩⟩⟩⟩⟩⟩⟩⟩⟩⟩⟩
theorem lw_p32 : lw_okq (⟨"MirrorNodesModel", "isTaped", "(I)Z"⟩, 18) := ⟨⟨by decide +kernel, by decide +kernel⟩, List.mem_of_getElem? (i := 529) (by decide +kernel), List.mem_of_getElem? (i := 780) (by decide +kernel), List.mem_of_getElem? (i := 781) (by decide +kernel)⟩
theorem lw_p33 : lw_okq (⟨"MirrorNodesModel", "whyNot", "(IIII)I"⟩, 18) := ⟨⟨by decide +kernel, by decide +kernel⟩, List.mem_of_getElem? (i := 529) (by decide +kernel), List.mem_of_getElem? (i := 804) (by decide +kernel), List.mem_of_getElem? (i := 805) (by decide +kernel)⟩
theorem lw_p34 : lw_okq (⟨"MirrorNodesModel", "ofAll", "(I)I"⟩, 18) := ⟨⟨by decide +kernel, by decide +kernel⟩, List.mem_of_getElem? (i := 529) (by decide +kernel), List.mem_of_getElem? (i := 829) (by decide +kernel), List.mem_of_getElem? (i := 830) (by decide +kernel)⟩
def lw_privs_3 : List (MethodName × Nat) := [(⟨"MirrorNodesModel", "isTaped", "(I)Z"⟩, 18), (⟨"MirrorNodesModel", "whyNot", "(IIII)I"⟩, 18), (⟨"MirrorNodesModel", "ofAll", "(I)I"⟩, 18)]
theorem lw_r3 : ∀ q ∈ lw_privs_3, lw_okq q := List.forall_mem_cons.mpr ⟨lw_p32, List.forall_mem_cons.mpr ⟨lw_p33, List.forall_mem_cons.mpr ⟨lw_p34, fun _ h => absurd h List.not_mem_nil⟩⟩⟩
def lw_privs : List (MethodName × Nat) := lw_privs_1 ++ (lw_privs_2 ++ (lw_privs_3))
def lw_tbl : List Cond := k2_sels lw_privs ++ tables_1
theorem lw_privs_ok : ∀ q ∈ lw_privs, lw_okq q := by
  show ∀ q ∈ lw_privs_1 ++ (lw_privs_2 ++ (lw_privs_3)), lw_okq q
  exact List.forall_mem_append.mpr ⟨lw_r1, List.forall_mem_append.mpr ⟨lw_r2, lw_r3⟩⟩
end
section
def RX0 : String := "MirrorNodes$Acts"
def TX0 : u_T := fun k => match k with
  | 0 => ("MirrorNodes$Acts", "kinds", "[I", true)
  | 1 => ("MirrorNodes$Acts", "places", "[I", true)
  | 2 => ("MirrorNodes$Acts", "letters", "[I", true)
  | _ => ("MirrorNodes$Acts", "size", "I", false)
def tyX0 : Nat → FieldType := fun k => match k with
  | 0 => .array .int
  | 1 => .array .int
  | 2 => .array .int
  | _ => .int
abbrev wsX00 : List Cond := u_ws RX0 TX0 4
theorem nmX0 : ∀ a, a < 4 → ∀ b, b < 4 → a ≠ b → (TX0 a).2.1 ≠ (TX0 b).2.1 := by decide +kernel
theorem tyX0_ok : ∀ k, k < 4 → parseFieldDescriptor (TX0 k).2.2.1 = some (tyX0 k) := by decide +kernel
abbrev cX0_init : ByteArray := prog_2_method_1_code
def yX0_init : MethodName := ⟨RX0, "<init>", "()V"⟩
abbrev cX0_note : ByteArray := prog_2_method_2_code
def yX0_note : MethodName := ⟨RX0, "note", "(III)V"⟩
abbrev cX0_forgetOldest : ByteArray := prog_2_method_3_code
def yX0_forgetOldest : MethodName := ⟨RX0, "forgetOldest", "()V"⟩
abbrev cX0_takeBackLatest : ByteArray := prog_2_method_4_code
def yX0_takeBackLatest : MethodName := ⟨RX0, "takeBackLatest", "(LMirrorNodes$Catalogue;)V"⟩
abbrev cX0_forget : ByteArray := prog_2_method_5_code
def yX0_forget : MethodName := ⟨RX0, "forget", "()V"⟩
def RX1 : String := "MirrorNodes$Catalogue"
def TX1 : u_T := fun k => match k with
  | 0 => ("MirrorNodes$Catalogue", "letters", "[I", true)
  | 1 => ("MirrorNodes$Catalogue", "longestAt", "[I", true)
  | 2 => ("MirrorNodes$Catalogue", "length", "[I", true)
  | 3 => ("MirrorNodes$Catalogue", "link", "[I", true)
  | 4 => ("MirrorNodes$Catalogue", "series", "[I", true)
  | 5 => ("MirrorNodes$Catalogue", "core", "[I", true)
  | 6 => ("MirrorNodes$Catalogue", "firstEnd", "[I", true)
  | 7 => ("MirrorNodes$Catalogue", "depth", "[I", true)
  | 8 => ("MirrorNodes$Catalogue", "wider", "[I", true)
  | 9 => ("MirrorNodes$Catalogue", "size", "I", false)
  | _ => ("MirrorNodes$Catalogue", "nodes", "I", false)
def tyX1 : Nat → FieldType := fun k => match k with
  | 0 => .array .int
  | 1 => .array .int
  | 2 => .array .int
  | 3 => .array .int
  | 4 => .array .int
  | 5 => .array .int
  | 6 => .array .int
  | 7 => .array .int
  | 8 => .array .int
  | 9 => .int
  | _ => .int
abbrev wsX10 : List Cond := u_ws RX1 TX1 11
theorem nmX1 : ∀ a, a < 11 → ∀ b, b < 11 → a ≠ b → (TX1 a).2.1 ≠ (TX1 b).2.1 := by decide +kernel
theorem tyX1_ok : ∀ k, k < 11 → parseFieldDescriptor (TX1 k).2.2.1 = some (tyX1 k) := by decide +kernel
abbrev cX1_init : ByteArray := prog_3_method_1_code
def yX1_init : MethodName := ⟨RX1, "<init>", "()V"⟩
abbrev cX1_add : ByteArray := prog_3_method_2_code
def yX1_add : MethodName := ⟨RX1, "add", "(I)I"⟩
abbrev cX1_longestBehind : ByteArray := prog_3_method_3_code
def yX1_longestBehind : MethodName := ⟨RX1, "longestBehind", "(II)I"⟩
abbrev cX1_create : ByteArray := prog_3_method_4_code
def yX1_create : MethodName := ⟨RX1, "create", "(II)I"⟩
abbrev cX1_edge : ByteArray := prog_3_method_5_code
def yX1_edge : MethodName := ⟨RX1, "edge", "(II)I"⟩
abbrev cX1_removeLast : ByteArray := prog_3_method_6_code
def yX1_removeLast : MethodName := ⟨RX1, "removeLast", "()V"⟩
abbrev cX1_load : ByteArray := prog_3_method_7_code
def yX1_load : MethodName := ⟨RX1, "load", "([III)V"⟩
abbrev cX1_lengthen : ByteArray := prog_3_method_8_code
def yX1_lengthen : MethodName := ⟨RX1, "lengthen", "(I)V"⟩
abbrev cX1_shorten : ByteArray := prog_3_method_9_code
def yX1_shorten : MethodName := ⟨RX1, "shorten", "(I)V"⟩
abbrev cX1_replace : ByteArray := prog_3_method_10_code
def yX1_replace : MethodName := ⟨RX1, "replace", "(II)V"⟩
abbrev cX1_lastLetter : ByteArray := prog_3_method_11_code
def yX1_lastLetter : MethodName := ⟨RX1, "lastLetter", "()I"⟩
abbrev cX1_less : ByteArray := prog_3_method_12_code
def yX1_less : MethodName := ⟨RX1, "less", "(I)I"⟩
abbrev cX1_firstPlace : ByteArray := prog_3_method_13_code
def yX1_firstPlace : MethodName := ⟨RX1, "firstPlace", "(I)I"⟩
abbrev cX1_lastPlace : ByteArray := prog_3_method_14_code
def yX1_lastPlace : MethodName := ⟨RX1, "lastPlace", "(I)I"⟩
abbrev cX1_standsAt : ByteArray := prog_3_method_15_code
def yX1_standsAt : MethodName := ⟨RX1, "standsAt", "(I[III)Z"⟩
abbrev cX1_places : ByteArray := prog_3_method_16_code
def yX1_places : MethodName := ⟨RX1, "places", "([III)I"⟩
abbrev cX1_nodeOf : ByteArray := prog_3_method_17_code
def yX1_nodeOf : MethodName := ⟨RX1, "nodeOf", "([III)I"⟩
abbrev cX1_longestNode : ByteArray := prog_3_method_18_code
def yX1_longestNode : MethodName := ⟨RX1, "longestNode", "()I"⟩
abbrev cX1_evenNodes : ByteArray := prog_3_method_19_code
def yX1_evenNodes : MethodName := ⟨RX1, "evenNodes", "()I"⟩
abbrev cX1_allPlaces : ByteArray := prog_3_method_20_code
def yX1_allPlaces : MethodName := ⟨RX1, "allPlaces", "()I"⟩
abbrev cX1_unlikePairs : ByteArray := prog_3_method_21_code
def yX1_unlikePairs : MethodName := ⟨RX1, "unlikePairs", "()I"⟩
abbrev cX1_isMirrorTurned : ByteArray := prog_3_method_22_code
def yX1_isMirrorTurned : MethodName := ⟨RX1, "isMirrorTurned", "(I)Z"⟩
abbrev cX1_around : ByteArray := prog_3_method_23_code
def yX1_around : MethodName := ⟨RX1, "around", "(I)I"⟩
def RX2 : String := "MirrorNodes$Cutting"
def TX2 : u_T := fun k => match k with
  | 0 => ("MirrorNodes$Cutting", "fewest", "[I", true)
  | _ => ("MirrorNodes$Cutting", "firstLength", "[I", true)
def tyX2 : Nat → FieldType := fun k => match k with
  | 0 => .array .int
  | _ => .array .int
abbrev wsX20 : List Cond := u_ws RX2 TX2 2
theorem nmX2 : ∀ a, a < 2 → ∀ b, b < 2 → a ≠ b → (TX2 a).2.1 ≠ (TX2 b).2.1 := by decide +kernel
theorem tyX2_ok : ∀ k, k < 2 → parseFieldDescriptor (TX2 k).2.2.1 = some (tyX2 k) := by decide +kernel
abbrev cX2_init : ByteArray := prog_4_method_1_code
def yX2_init : MethodName := ⟨RX2, "<init>", "()V"⟩
abbrev cX2_cut : ByteArray := prog_4_method_2_code
def yX2_cut : MethodName := ⟨RX2, "cut", "(LMirrorNodes$Catalogue;IZ)V"⟩
abbrev cX2_reachFrom : ByteArray := prog_4_method_3_code
def yX2_reachFrom : MethodName := ⟨RX2, "reachFrom", "(ILMirrorNodes$Catalogue;Z)V"⟩
abbrev cX2_pieces : ByteArray := prog_4_method_4_code
def yX2_pieces : MethodName := ⟨RX2, "pieces", "()I"⟩
abbrev cX2_pieceLength : ByteArray := prog_4_method_5_code
def yX2_pieceLength : MethodName := ⟨RX2, "pieceLength", "(I)I"⟩
def RX3 : String := "MirrorNodes$Row"
def TX3 : u_T := fun k => match k with
  | 0 => ("MirrorNodes$Row", "cells", "[I", true)
  | _ => ("MirrorNodes$Row", "size", "I", false)
def tyX3 : Nat → FieldType := fun k => match k with
  | 0 => .array .int
  | _ => .int
abbrev wsX30 : List Cond := u_ws RX3 TX3 2
theorem nmX3 : ∀ a, a < 2 → ∀ b, b < 2 → a ≠ b → (TX3 a).2.1 ≠ (TX3 b).2.1 := by decide +kernel
theorem tyX3_ok : ∀ k, k < 2 → parseFieldDescriptor (TX3 k).2.2.1 = some (tyX3 k) := by decide +kernel
abbrev cX3_init : ByteArray := prog_5_method_1_code
def yX3_init : MethodName := ⟨RX3, "<init>", "(I)V"⟩
abbrev cX3_hold : ByteArray := prog_5_method_2_code
def yX3_hold : MethodName := ⟨RX3, "hold", "([II)V"⟩
abbrev cX3_append : ByteArray := prog_5_method_3_code
def yX3_append : MethodName := ⟨RX3, "append", "(I)V"⟩
def RX4 : String := "MirrorNodes$Sheet"
def TX4 : u_T := fun k => match k with
  | 0 => ("MirrorNodes$Sheet", "items", "[J", true)
  | 1 => ("MirrorNodes$Sheet", "lane", "I", false)
  | _ => ("MirrorNodes$Sheet", "size", "I", false)
def tyX4 : Nat → FieldType := fun k => match k with
  | 0 => .array .long
  | 1 => .int
  | _ => .int
abbrev wsX40 : List Cond := u_ws RX4 TX4 3
theorem nmX4 : ∀ a, a < 3 → ∀ b, b < 3 → a ≠ b → (TX4 a).2.1 ≠ (TX4 b).2.1 := by decide +kernel
theorem tyX4_ok : ∀ k, k < 3 → parseFieldDescriptor (TX4 k).2.2.1 = some (tyX4 k) := by decide +kernel
abbrev cX4_init : ByteArray := prog_6_method_1_code
def yX4_init : MethodName := ⟨RX4, "<init>", "()V"⟩
abbrev cX4_begin : ByteArray := prog_6_method_2_code
def yX4_begin : MethodName := ⟨RX4, "begin", "(II)V"⟩
abbrev cX4_refusal : ByteArray := prog_6_method_3_code
def yX4_refusal : MethodName := ⟨RX4, "refusal", "(III)I"⟩
abbrev cX4_store : ByteArray := prog_6_method_4_code
def yX4_store : MethodName := ⟨RX4, "store", "(IJ)J"⟩
abbrev cX4_narrowed : ByteArray := prog_6_method_5_code
def yX4_narrowed : MethodName := ⟨RX4, "narrowed", "(J)J"⟩
abbrev cX4_holdsBytes : ByteArray := prog_6_method_6_code
def yX4_holdsBytes : MethodName := ⟨RX4, "holdsBytes", "(II)Z"⟩
def RX5 : String := "MirrorNodes"
def TX5 : u_T := fun k => match k with
  | 0 => ("MirrorNodes", "text", "LMirrorNodes$Catalogue;", true)
  | 1 => ("MirrorNodes", "trial", "LMirrorNodes$Catalogue;", true)
  | 2 => ("MirrorNodes", "acts", "LMirrorNodes$Acts;", true)
  | 3 => ("MirrorNodes", "cutting", "LMirrorNodes$Cutting;", true)
  | 4 => ("MirrorNodes", "images", "[LMirrorNodes$Row;", true)
  | 5 => ("MirrorNodes", "tape", "LMirrorNodes$Row;", true)
  | 6 => ("MirrorNodes", "sheets", "[LMirrorNodes$Sheet;", true)
  | 7 => ("MirrorNodes", "grown", "[I", true)
  | _ => ("MirrorNodes", "fills", "[I", true)
def tyX5 : Nat → FieldType := fun k => match k with
  | 0 => .object "MirrorNodes$Catalogue"
  | 1 => .object "MirrorNodes$Catalogue"
  | 2 => .object "MirrorNodes$Acts"
  | 3 => .object "MirrorNodes$Cutting"
  | 4 => .array (.object "MirrorNodes$Row")
  | 5 => .object "MirrorNodes$Row"
  | 6 => .array (.object "MirrorNodes$Sheet")
  | 7 => .array .int
  | _ => .array .int
abbrev wsX50 : List Cond := u_ws RX5 TX5 9
theorem nmX5 : ∀ a, a < 9 → ∀ b, b < 9 → a ≠ b → (TX5 a).2.1 ≠ (TX5 b).2.1 := by decide +kernel
theorem tyX5_ok : ∀ k, k < 9 → parseFieldDescriptor (TX5 k).2.2.1 = some (tyX5 k) := by decide +kernel
abbrev cX5_init : ByteArray := prog_1_method_1_code
def yX5_init : MethodName := ⟨RX5, "<init>", "()V"⟩
abbrev cX5_put : ByteArray := prog_1_method_2_code
def yX5_put : MethodName := ⟨RX5, "put", "(I)I"⟩
abbrev cX5_pop : ByteArray := prog_1_method_3_code
def yX5_pop : MethodName := ⟨RX5, "pop", "()I"⟩
abbrev cX5_change : ByteArray := prog_1_method_4_code
def yX5_change : MethodName := ⟨RX5, "change", "(II)I"⟩
abbrev cX5_undo : ByteArray := prog_1_method_5_code
def yX5_undo : MethodName := ⟨RX5, "undo", "()I"⟩
abbrev cX5_letter : ByteArray := prog_1_method_6_code
def yX5_letter : MethodName := ⟨RX5, "letter", "(I)I"⟩
abbrev cX5_node : ByteArray := prog_1_method_7_code
def yX5_node : MethodName := ⟨RX5, "node", "(II)I"⟩
abbrev cX5_keep : ByteArray := prog_1_method_8_code
def yX5_keep : MethodName := ⟨RX5, "keep", "(I)I"⟩
abbrev cX5_back : ByteArray := prog_1_method_9_code
def yX5_back : MethodName := ⟨RX5, "back", "(I)I"⟩
abbrev cX5_common : ByteArray := prog_1_method_10_code
def yX5_common : MethodName := ⟨RX5, "common", "(II)I"⟩
abbrev cX5_ends : ByteArray := prog_1_method_11_code
def yX5_ends : MethodName := ⟨RX5, "ends", "(II)I"⟩
abbrev cX5_groups : ByteArray := prog_1_method_12_code
def yX5_groups : MethodName := ⟨RX5, "groups", "(I)I"⟩
abbrev cX5_cuts : ByteArray := prog_1_method_13_code
def yX5_cuts : MethodName := ⟨RX5, "cuts", "(II)I"⟩
abbrev cX5_evens : ByteArray := prog_1_method_14_code
def yX5_evens : MethodName := ⟨RX5, "evens", "(I)I"⟩
abbrev cX5_in : ByteArray := prog_1_method_15_code
def yX5_in : MethodName := ⟨RX5, "in", "(III)I"⟩
abbrev cX5_mend : ByteArray := prog_1_method_16_code
def yX5_mend : MethodName := ⟨RX5, "mend", "(I)I"⟩
abbrev cX5_turned : ByteArray := prog_1_method_17_code
def yX5_turned : MethodName := ⟨RX5, "turned", "(I)I"⟩
abbrev cX5_next : ByteArray := prog_1_method_18_code
def yX5_next : MethodName := ⟨RX5, "next", "(II)I"⟩
abbrev cX5_grow : ByteArray := prog_1_method_19_code
def yX5_grow : MethodName := ⟨RX5, "grow", "(II)I"⟩
abbrev cX5_odds : ByteArray := prog_1_method_20_code
def yX5_odds : MethodName := ⟨RX5, "odds", "(III)I"⟩
abbrev cX5_walks : ByteArray := prog_1_method_21_code
def yX5_walks : MethodName := ⟨RX5, "walks", "(III)I"⟩
abbrev cX5_feed : ByteArray := prog_1_method_22_code
def yX5_feed : MethodName := ⟨RX5, "feed", "(I)I"⟩
abbrev cX5_clear : ByteArray := prog_1_method_23_code
def yX5_clear : MethodName := ⟨RX5, "clear", "()I"⟩
abbrev cX5_find : ByteArray := prog_1_method_24_code
def yX5_find : MethodName := ⟨RX5, "find", "()I"⟩
abbrev cX5_times : ByteArray := prog_1_method_25_code
def yX5_times : MethodName := ⟨RX5, "times", "()I"⟩
abbrev cX5_sheet : ByteArray := prog_1_method_26_code
def yX5_sheet : MethodName := ⟨RX5, "sheet", "(III)I"⟩
abbrev cX5_drop : ByteArray := prog_1_method_27_code
def yX5_drop : MethodName := ⟨RX5, "drop", "(I)I"⟩
abbrev cX5_item : ByteArray := prog_1_method_28_code
def yX5_item : MethodName := ⟨RX5, "item", "(IIIJ)J"⟩
abbrev cX5_copy : ByteArray := prog_1_method_29_code
def yX5_copy : MethodName := ⟨RX5, "copy", "(IIIII)I"⟩
abbrev cX5_spell : ByteArray := prog_1_method_30_code
def yX5_spell : MethodName := ⟨RX5, "spell", "(IIII)I"⟩
abbrev cX5_read : ByteArray := prog_1_method_31_code
def yX5_read : MethodName := ⟨RX5, "read", "(IIII)I"⟩
abbrev cX5_count : ByteArray := prog_1_method_32_code
def yX5_count : MethodName := ⟨RX5, "count", "(I)I"⟩
abbrev cX5_within : ByteArray := prog_1_method_33_code
def yX5_within : MethodName := ⟨RX5, "within", "(III)Z"⟩
abbrev cX5_isLetter : ByteArray := prog_1_method_34_code
def yX5_isLetter : MethodName := ⟨RX5, "isLetter", "(I)Z"⟩
abbrev cX5_isByte : ByteArray := prog_1_method_35_code
def yX5_isByte : MethodName := ⟨RX5, "isByte", "(J)Z"⟩
abbrev cX5_isSheet : ByteArray := prog_1_method_36_code
def yX5_isSheet : MethodName := ⟨RX5, "isSheet", "(I)Z"⟩
abbrev cX5_isLane : ByteArray := prog_1_method_37_code
def yX5_isLane : MethodName := ⟨RX5, "isLane", "(I)Z"⟩
abbrev cX5_isPlace : ByteArray := prog_1_method_38_code
def yX5_isPlace : MethodName := ⟨RX5, "isPlace", "(I)Z"⟩
abbrev cX5_isNode : ByteArray := prog_1_method_39_code
def yX5_isNode : MethodName := ⟨RX5, "isNode", "(I)Z"⟩
abbrev cX5_nodeOrNone : ByteArray := prog_1_method_40_code
def yX5_nodeOrNone : MethodName := ⟨RX5, "nodeOrNone", "(I)I"⟩
abbrev cX5_fewestFills : ByteArray := prog_1_method_41_code
def yX5_fewestFills : MethodName := ⟨RX5, "fewestFills", "()I"⟩
abbrev cX5_growMost : ByteArray := prog_1_method_42_code
def yX5_growMost : MethodName := ⟨RX5, "growMost", "(I)I"⟩
abbrev cX5_rowsThatBring : ByteArray := prog_1_method_43_code
def yX5_rowsThatBring : MethodName := ⟨RX5, "rowsThatBring", "(II)I"⟩
abbrev cX5_rowsOf : ByteArray := prog_1_method_44_code
def yX5_rowsOf : MethodName := ⟨RX5, "rowsOf", "(I)I"⟩
abbrev cX5_startRows : ByteArray := prog_1_method_45_code
def yX5_startRows : MethodName := ⟨RX5, "startRows", "(I)V"⟩
abbrev cX5_stepRow : ByteArray := prog_1_method_46_code
def yX5_stepRow : MethodName := ⟨RX5, "stepRow", "(I)V"⟩
abbrev cX5_greatestDivisor : ByteArray := prog_1_method_47_code
def yX5_greatestDivisor : MethodName := ⟨RX5, "greatestDivisor", "(II)I"⟩
def RX6 : String := "MirrorNodesModel"
def TX6 : u_T := fun k => match k with
  | 0 => ("MirrorNodesModel", "many", "I", false)
  | 1 => ("MirrorNodesModel", "text", "[I", true)
  | 2 => ("MirrorNodesModel", "acts", "I", false)
  | 3 => ("MirrorNodesModel", "act", "[I", true)
  | 4 => ("MirrorNodesModel", "image", "[I", true)
  | 5 => ("MirrorNodesModel", "imageMany", "[I", true)
  | 6 => ("MirrorNodesModel", "bytes", "I", false)
  | 7 => ("MirrorNodesModel", "tape", "[I", true)
  | 8 => ("MirrorNodesModel", "lane", "[I", true)
  | 9 => ("MirrorNodesModel", "size", "[I", true)
  | 10 => ("MirrorNodesModel", "items", "[J", true)
  | 11 => ("MirrorNodesModel", "spare", "[J", true)
  | 12 => ("MirrorNodesModel", "nodes", "I", false)
  | 13 => ("MirrorNodesModel", "first", "[I", true)
  | 14 => ("MirrorNodesModel", "sizeOf", "[I", true)
  | 15 => ("MirrorNodesModel", "far", "[I", true)
  | 16 => ("MirrorNodesModel", "bestRow", "[I", true)
  | _ => ("MirrorNodesModel", "kept", "[I", true)
def tyX6 : Nat → FieldType := fun k => match k with
  | 0 => .int
  | 1 => .array .int
  | 2 => .int
  | 3 => .array .int
  | 4 => .array .int
  | 5 => .array .int
  | 6 => .int
  | 7 => .array .int
  | 8 => .array .int
  | 9 => .array .int
  | 10 => .array .long
  | 11 => .array .long
  | 12 => .int
  | 13 => .array .int
  | 14 => .array .int
  | 15 => .array .int
  | 16 => .array .int
  | _ => .array .int
abbrev wsX60 : List Cond := u_ws RX6 TX6 18
theorem nmX6 : ∀ a, a < 18 → ∀ b, b < 18 → a ≠ b → (TX6 a).2.1 ≠ (TX6 b).2.1 := by decide +kernel
theorem tyX6_ok : ∀ k, k < 18 → parseFieldDescriptor (TX6 k).2.2.1 = some (tyX6 k) := by decide +kernel
abbrev cX6_init : ByteArray := prog_8_method_1_code
def yX6_init : MethodName := ⟨RX6, "<init>", "()V"⟩
abbrev cX6_within : ByteArray := prog_8_method_2_code
def yX6_within : MethodName := ⟨RX6, "within", "(JJJ)Z"⟩
abbrev cX6_bring : ByteArray := prog_8_method_3_code
def yX6_bring : MethodName := ⟨RX6, "bring", "([II[III)V"⟩
abbrev cX6_isMirror : ByteArray := prog_8_method_4_code
def yX6_isMirror : MethodName := ⟨RX6, "isMirror", "(II)Z"⟩
abbrev cX6_isSame : ByteArray := prog_8_method_5_code
def yX6_isSame : MethodName := ⟨RX6, "isSame", "(III)Z"⟩
abbrev cX6_endsBelow : ByteArray := prog_8_method_6_code
def yX6_endsBelow : MethodName := ⟨RX6, "endsBelow", "(II)I"⟩
abbrev cX6_isNew : ByteArray := prog_8_method_7_code
def yX6_isNew : MethodName := ⟨RX6, "isNew", "(I)Z"⟩
abbrev cX6_lay : ByteArray := prog_8_method_8_code
def yX6_lay : MethodName := ⟨RX6, "lay", "()V"⟩
abbrev cX6_nodeOf : ByteArray := prog_8_method_9_code
def yX6_nodeOf : MethodName := ⟨RX6, "nodeOf", "(II)I"⟩
abbrev cX6_stands : ByteArray := prog_8_method_10_code
def yX6_stands : MethodName := ⟨RX6, "stands", "(III)I"⟩
abbrev cX6_link : ByteArray := prog_8_method_11_code
def yX6_link : MethodName := ⟨RX6, "link", "(I)I"⟩
abbrev cX6_less : ByteArray := prog_8_method_12_code
def yX6_less : MethodName := ⟨RX6, "less", "(I)I"⟩
abbrev cX6_series : ByteArray := prog_8_method_13_code
def yX6_series : MethodName := ⟨RX6, "series", "(I)I"⟩
abbrev cX6_isLetter : ByteArray := prog_8_method_14_code
def yX6_isLetter : MethodName := ⟨RX6, "isLetter", "(I)Z"⟩
abbrev cX6_note : ByteArray := prog_8_method_15_code
def yX6_note : MethodName := ⟨RX6, "note", "(I)V"⟩
abbrev cX6_push : ByteArray := prog_8_method_16_code
def yX6_push : MethodName := ⟨RX6, "push", "(I)V"⟩
abbrev cX6_put : ByteArray := prog_8_method_17_code
def yX6_put : MethodName := ⟨RX6, "put", "(I)I"⟩
abbrev cX6_pop : ByteArray := prog_8_method_18_code
def yX6_pop : MethodName := ⟨RX6, "pop", "()I"⟩
abbrev cX6_change : ByteArray := prog_8_method_19_code
def yX6_change : MethodName := ⟨RX6, "change", "(II)I"⟩
abbrev cX6_undo : ByteArray := prog_8_method_20_code
def yX6_undo : MethodName := ⟨RX6, "undo", "()I"⟩
abbrev cX6_letter : ByteArray := prog_8_method_21_code
def yX6_letter : MethodName := ⟨RX6, "letter", "(I)I"⟩
abbrev cX6_node : ByteArray := prog_8_method_22_code
def yX6_node : MethodName := ⟨RX6, "node", "(II)I"⟩
abbrev cX6_keep : ByteArray := prog_8_method_23_code
def yX6_keep : MethodName := ⟨RX6, "keep", "(I)I"⟩
abbrev cX6_back : ByteArray := prog_8_method_24_code
def yX6_back : MethodName := ⟨RX6, "back", "(I)I"⟩
abbrev cX6_isImaged : ByteArray := prog_8_method_25_code
def yX6_isImaged : MethodName := ⟨RX6, "isImaged", "(III)Z"⟩
abbrev cX6_common : ByteArray := prog_8_method_26_code
def yX6_common : MethodName := ⟨RX6, "common", "(II)I"⟩
abbrev cX6_ends : ByteArray := prog_8_method_27_code
def yX6_ends : MethodName := ⟨RX6, "ends", "(II)I"⟩
abbrev cX6_groups : ByteArray := prog_8_method_28_code
def yX6_groups : MethodName := ⟨RX6, "groups", "(I)I"⟩
abbrev cX6_layCuts : ByteArray := prog_8_method_29_code
def yX6_layCuts : MethodName := ⟨RX6, "layCuts", "(II)V"⟩
abbrev cX6_cuts : ByteArray := prog_8_method_30_code
def yX6_cuts : MethodName := ⟨RX6, "cuts", "(II)I"⟩
abbrev cX6_evens : ByteArray := prog_8_method_31_code
def yX6_evens : MethodName := ⟨RX6, "evens", "(I)I"⟩
abbrev cX6_unlike : ByteArray := prog_8_method_32_code
def yX6_unlike : MethodName := ⟨RX6, "unlike", "(II)I"⟩
abbrev cX6_in : ByteArray := prog_8_method_33_code
def yX6_in : MethodName := ⟨RX6, "in", "(III)I"⟩
abbrev cX6_fill : ByteArray := prog_8_method_34_code
def yX6_fill : MethodName := ⟨RX6, "fill", "()I"⟩
abbrev cX6_mend : ByteArray := prog_8_method_35_code
def yX6_mend : MethodName := ⟨RX6, "mend", "(I)I"⟩
abbrev cX6_isTurned : ByteArray := prog_8_method_36_code
def yX6_isTurned : MethodName := ⟨RX6, "isTurned", "(I)Z"⟩
abbrev cX6_turned : ByteArray := prog_8_method_37_code
def yX6_turned : MethodName := ⟨RX6, "turned", "(I)I"⟩
abbrev cX6_next : ByteArray := prog_8_method_38_code
def yX6_next : MethodName := ⟨RX6, "next", "(II)I"⟩
abbrev cX6_power : ByteArray := prog_8_method_39_code
def yX6_power : MethodName := ⟨RX6, "power", "(I)I"⟩
abbrev cX6_more : ByteArray := prog_8_method_40_code
def yX6_more : MethodName := ⟨RX6, "more", "(II)I"⟩
abbrev cX6_grow : ByteArray := prog_8_method_41_code
def yX6_grow : MethodName := ⟨RX6, "grow", "(II)I"⟩
abbrev cX6_odds : ByteArray := prog_8_method_42_code
def yX6_odds : MethodName := ⟨RX6, "odds", "(III)I"⟩
abbrev cX6_walks : ByteArray := prog_8_method_43_code
def yX6_walks : MethodName := ⟨RX6, "walks", "(III)I"⟩
abbrev cX6_feed : ByteArray := prog_8_method_44_code
def yX6_feed : MethodName := ⟨RX6, "feed", "(I)I"⟩
abbrev cX6_clear : ByteArray := prog_8_method_45_code
def yX6_clear : MethodName := ⟨RX6, "clear", "()I"⟩
abbrev cX6_isTaped : ByteArray := prog_8_method_46_code
def yX6_isTaped : MethodName := ⟨RX6, "isTaped", "(I)Z"⟩
abbrev cX6_find : ByteArray := prog_8_method_47_code
def yX6_find : MethodName := ⟨RX6, "find", "()I"⟩
abbrev cX6_times : ByteArray := prog_8_method_48_code
def yX6_times : MethodName := ⟨RX6, "times", "()I"⟩
abbrev cX6_isSheet : ByteArray := prog_8_method_49_code
def yX6_isSheet : MethodName := ⟨RX6, "isSheet", "(I)Z"⟩
abbrev cX6_sheet : ByteArray := prog_8_method_50_code
def yX6_sheet : MethodName := ⟨RX6, "sheet", "(III)I"⟩
abbrev cX6_drop : ByteArray := prog_8_method_51_code
def yX6_drop : MethodName := ⟨RX6, "drop", "(I)I"⟩
abbrev cX6_whyNot : ByteArray := prog_8_method_52_code
def yX6_whyNot : MethodName := ⟨RX6, "whyNot", "(IIII)I"⟩
abbrev cX6_cut : ByteArray := prog_8_method_53_code
def yX6_cut : MethodName := ⟨RX6, "cut", "(IJ)J"⟩
abbrev cX6_item : ByteArray := prog_8_method_54_code
def yX6_item : MethodName := ⟨RX6, "item", "(IIIJ)J"⟩
abbrev cX6_copy : ByteArray := prog_8_method_55_code
def yX6_copy : MethodName := ⟨RX6, "copy", "(IIIII)I"⟩
abbrev cX6_spell : ByteArray := prog_8_method_56_code
def yX6_spell : MethodName := ⟨RX6, "spell", "(IIII)I"⟩
abbrev cX6_read : ByteArray := prog_8_method_57_code
def yX6_read : MethodName := ⟨RX6, "read", "(IIII)I"⟩
abbrev cX6_ofAll : ByteArray := prog_8_method_58_code
def yX6_ofAll : MethodName := ⟨RX6, "ofAll", "(I)I"⟩
abbrev cX6_count : ByteArray := prog_8_method_59_code
def yX6_count : MethodName := ⟨RX6, "count", "(I)I"⟩
def RJ9 : String := "java/lang/Math"
def TJ9 : u_T := fun k => match k with
  | _ => ("", "", "", false)
def tyJ9 : Nat → FieldType := fun k => match k with
  | _ => .int
abbrev wsJ90 : List Cond := u_ws RJ9 TJ9 0
theorem nmJ9 : ∀ a, a < 0 → ∀ b, b < 0 → a ≠ b → (TJ9 a).2.1 ≠ (TJ9 b).2.1 := by decide +kernel
theorem tyJ9_ok : ∀ k, k < 0 → parseFieldDescriptor (TJ9 k).2.2.1 = some (tyJ9 k) := by decide +kernel
abbrev cJ9_max_7cf53 : ByteArray := prog_9_method_65_code
def yJ9_max_7cf53 : MethodName := ⟨RJ9, "max", "(II)I"⟩
abbrev cJ9_min_7cf53 : ByteArray := prog_9_method_69_code
def yJ9_min_7cf53 : MethodName := ⟨RJ9, "min", "(II)I"⟩
def RJ10 : String := "java/lang/System"
def TJ10 : u_T := fun k => match k with
  | _ => ("", "", "", false)
def tyJ10 : Nat → FieldType := fun k => match k with
  | _ => .int
abbrev wsJ100 : List Cond := u_ws RJ10 TJ10 0
theorem nmJ10 : ∀ a, a < 0 → ∀ b, b < 0 → a ≠ b → (TJ10 a).2.1 ≠ (TJ10 b).2.1 := by decide +kernel
theorem tyJ10_ok : ∀ k, k < 0 → parseFieldDescriptor (TJ10 k).2.2.1 = some (tyJ10 k) := by decide +kernel
def RJ7 : String := "java/util/Arrays"
def TJ7 : u_T := fun k => match k with
  | _ => ("", "", "", false)
def tyJ7 : Nat → FieldType := fun k => match k with
  | _ => .int
abbrev wsJ70 : List Cond := u_ws RJ7 TJ7 0
theorem nmJ7 : ∀ a, a < 0 → ∀ b, b < 0 → a ≠ b → (TJ7 a).2.1 ≠ (TJ7 b).2.1 := by decide +kernel
theorem tyJ7_ok : ∀ k, k < 0 → parseFieldDescriptor (TJ7 k).2.2.1 = some (tyJ7 k) := by decide +kernel
abbrev cJ7_fill_d0a16 : ByteArray := prog_11_method_101_code
def yJ7_fill_d0a16 : MethodName := ⟨RJ7, "fill", "([JJ)V"⟩
abbrev cJ7_fill_53178 : ByteArray := prog_11_method_103_code
def yJ7_fill_53178 : MethodName := ⟨RJ7, "fill", "([II)V"⟩
def RL : String := "MirrorNodesLaw"
abbrev cL_law : ByteArray := code
def yL_law : MethodName := ⟨RL, "law", "([I)Z"⟩
abbrev vwCl : List vw_C := [(RX0, TX0, 4), (RX1, TX1, 11), (RX2, TX2, 2), (RX3, TX3, 2), (RX4, TX4, 3), (RX5, TX5, 9), (RX6, TX6, 18)]
end
section
theorem dX0_init_0 : decode cX0_init 0 = .ok (.aload_n 0, 1) := by decide +kernel
theorem dX0_init_1 : decode cX0_init 1 = .ok (.invokespecial 1, 3) := by decide +kernel
theorem dX0_init_4 : decode cX0_init 4 = .ok (.aload_n 0, 1) := by decide +kernel
theorem dX0_init_5 : decode cX0_init 5 = .ok (.bipush 24, 2) := by decide +kernel
theorem dX0_init_7 : decode cX0_init 7 = .ok (.newarray .int, 2) := by decide +kernel
theorem dX0_init_9 : decode cX0_init 9 = .ok (.putfield 9, 3) := by decide +kernel
theorem dX0_init_12 : decode cX0_init 12 = .ok (.aload_n 0, 1) := by decide +kernel
theorem dX0_init_13 : decode cX0_init 13 = .ok (.bipush 24, 2) := by decide +kernel
theorem dX0_init_15 : decode cX0_init 15 = .ok (.newarray .int, 2) := by decide +kernel
theorem dX0_init_17 : decode cX0_init 17 = .ok (.putfield 13, 3) := by decide +kernel
theorem dX0_init_20 : decode cX0_init 20 = .ok (.aload_n 0, 1) := by decide +kernel
theorem dX0_init_21 : decode cX0_init 21 = .ok (.bipush 24, 2) := by decide +kernel
theorem dX0_init_23 : decode cX0_init 23 = .ok (.newarray .int, 2) := by decide +kernel
theorem dX0_init_25 : decode cX0_init 25 = .ok (.putfield 16, 3) := by decide +kernel
theorem dX0_init_28 : decode cX0_init 28 = .ok (.return_, 1) := by decide +kernel
theorem dX0_note_0 : decode cX0_note 0 = .ok (.aload_n 0, 1) := by decide +kernel
theorem dX0_note_1 : decode cX0_note 1 = .ok (.getfield 19, 3) := by decide +kernel
theorem dX0_note_4 : decode cX0_note 4 = .ok (.bipush 24, 2) := by decide +kernel
theorem dX0_note_6 : decode cX0_note 6 = .ok (.if_icmp .ne 7, 3) := by decide +kernel
theorem dX0_note_9 : decode cX0_note 9 = .ok (.aload_n 0, 1) := by decide +kernel
theorem dX0_note_10 : decode cX0_note 10 = .ok (.invokevirtual 23, 3) := by decide +kernel
theorem dX0_note_13 : decode cX0_note 13 = .ok (.aload_n 0, 1) := by decide +kernel
theorem dX0_note_14 : decode cX0_note 14 = .ok (.getfield 9, 3) := by decide +kernel
theorem dX0_note_17 : decode cX0_note 17 = .ok (.aload_n 0, 1) := by decide +kernel
theorem dX0_note_18 : decode cX0_note 18 = .ok (.getfield 19, 3) := by decide +kernel
theorem dX0_note_21 : decode cX0_note 21 = .ok (.iload_n 1, 1) := by decide +kernel
theorem dX0_note_22 : decode cX0_note 22 = .ok (.iastore, 1) := by decide +kernel
theorem dX0_note_23 : decode cX0_note 23 = .ok (.aload_n 0, 1) := by decide +kernel
theorem dX0_note_24 : decode cX0_note 24 = .ok (.getfield 13, 3) := by decide +kernel
theorem dX0_note_27 : decode cX0_note 27 = .ok (.aload_n 0, 1) := by decide +kernel
theorem dX0_note_28 : decode cX0_note 28 = .ok (.getfield 19, 3) := by decide +kernel
theorem dX0_note_31 : decode cX0_note 31 = .ok (.iload_n 2, 1) := by decide +kernel
theorem dX0_note_32 : decode cX0_note 32 = .ok (.iastore, 1) := by decide +kernel
theorem dX0_note_33 : decode cX0_note 33 = .ok (.aload_n 0, 1) := by decide +kernel
theorem dX0_note_34 : decode cX0_note 34 = .ok (.getfield 16, 3) := by decide +kernel
theorem dX0_note_37 : decode cX0_note 37 = .ok (.aload_n 0, 1) := by decide +kernel
theorem dX0_note_38 : decode cX0_note 38 = .ok (.getfield 19, 3) := by decide +kernel
theorem dX0_note_41 : decode cX0_note 41 = .ok (.iload_n 3, 1) := by decide +kernel
theorem dX0_note_42 : decode cX0_note 42 = .ok (.iastore, 1) := by decide +kernel
theorem dX0_note_43 : decode cX0_note 43 = .ok (.aload_n 0, 1) := by decide +kernel
theorem dX0_note_44 : decode cX0_note 44 = .ok (.dup, 1) := by decide +kernel
theorem dX0_note_45 : decode cX0_note 45 = .ok (.getfield 19, 3) := by decide +kernel
theorem dX0_note_48 : decode cX0_note 48 = .ok (.iconst 1, 1) := by decide +kernel
theorem dX0_note_49 : decode cX0_note 49 = .ok (.iadd, 1) := by decide +kernel
theorem dX0_note_50 : decode cX0_note 50 = .ok (.putfield 19, 3) := by decide +kernel
theorem dX0_note_53 : decode cX0_note 53 = .ok (.return_, 1) := by decide +kernel
theorem dX0_forgetOldest_0 : decode cX0_forgetOldest 0 = .ok (.aload_n 0, 1) := by decide +kernel
theorem dX0_forgetOldest_1 : decode cX0_forgetOldest 1 = .ok (.dup, 1) := by decide +kernel
theorem dX0_forgetOldest_2 : decode cX0_forgetOldest 2 = .ok (.getfield 19, 3) := by decide +kernel
theorem dX0_forgetOldest_5 : decode cX0_forgetOldest 5 = .ok (.iconst 1, 1) := by decide +kernel
theorem dX0_forgetOldest_6 : decode cX0_forgetOldest 6 = .ok (.isub, 1) := by decide +kernel
theorem dX0_forgetOldest_7 : decode cX0_forgetOldest 7 = .ok (.putfield 19, 3) := by decide +kernel
theorem dX0_forgetOldest_10 : decode cX0_forgetOldest 10 = .ok (.aload_n 0, 1) := by decide +kernel
theorem dX0_forgetOldest_11 : decode cX0_forgetOldest 11 = .ok (.getfield 9, 3) := by decide +kernel
theorem dX0_forgetOldest_14 : decode cX0_forgetOldest 14 = .ok (.iconst 1, 1) := by decide +kernel
theorem dX0_forgetOldest_15 : decode cX0_forgetOldest 15 = .ok (.aload_n 0, 1) := by decide +kernel
theorem dX0_forgetOldest_16 : decode cX0_forgetOldest 16 = .ok (.getfield 9, 3) := by decide +kernel
theorem dX0_forgetOldest_19 : decode cX0_forgetOldest 19 = .ok (.iconst 0, 1) := by decide +kernel
theorem dX0_forgetOldest_20 : decode cX0_forgetOldest 20 = .ok (.aload_n 0, 1) := by decide +kernel
theorem dX0_forgetOldest_21 : decode cX0_forgetOldest 21 = .ok (.getfield 19, 3) := by decide +kernel
theorem dX0_forgetOldest_24 : decode cX0_forgetOldest 24 = .ok (.invokestatic 26, 3) := by decide +kernel
theorem dX0_forgetOldest_27 : decode cX0_forgetOldest 27 = .ok (.aload_n 0, 1) := by decide +kernel
theorem dX0_forgetOldest_28 : decode cX0_forgetOldest 28 = .ok (.getfield 13, 3) := by decide +kernel
theorem dX0_forgetOldest_31 : decode cX0_forgetOldest 31 = .ok (.iconst 1, 1) := by decide +kernel
theorem dX0_forgetOldest_32 : decode cX0_forgetOldest 32 = .ok (.aload_n 0, 1) := by decide +kernel
theorem dX0_forgetOldest_33 : decode cX0_forgetOldest 33 = .ok (.getfield 13, 3) := by decide +kernel
theorem dX0_forgetOldest_36 : decode cX0_forgetOldest 36 = .ok (.iconst 0, 1) := by decide +kernel
theorem dX0_forgetOldest_37 : decode cX0_forgetOldest 37 = .ok (.aload_n 0, 1) := by decide +kernel
theorem dX0_forgetOldest_38 : decode cX0_forgetOldest 38 = .ok (.getfield 19, 3) := by decide +kernel
theorem dX0_forgetOldest_41 : decode cX0_forgetOldest 41 = .ok (.invokestatic 26, 3) := by decide +kernel
theorem dX0_forgetOldest_44 : decode cX0_forgetOldest 44 = .ok (.aload_n 0, 1) := by decide +kernel
theorem dX0_forgetOldest_45 : decode cX0_forgetOldest 45 = .ok (.getfield 16, 3) := by decide +kernel
theorem dX0_forgetOldest_48 : decode cX0_forgetOldest 48 = .ok (.iconst 1, 1) := by decide +kernel
theorem dX0_forgetOldest_49 : decode cX0_forgetOldest 49 = .ok (.aload_n 0, 1) := by decide +kernel
theorem dX0_forgetOldest_50 : decode cX0_forgetOldest 50 = .ok (.getfield 16, 3) := by decide +kernel
theorem dX0_forgetOldest_53 : decode cX0_forgetOldest 53 = .ok (.iconst 0, 1) := by decide +kernel
theorem dX0_forgetOldest_54 : decode cX0_forgetOldest 54 = .ok (.aload_n 0, 1) := by decide +kernel
theorem dX0_forgetOldest_55 : decode cX0_forgetOldest 55 = .ok (.getfield 19, 3) := by decide +kernel
theorem dX0_forgetOldest_58 : decode cX0_forgetOldest 58 = .ok (.invokestatic 26, 3) := by decide +kernel
theorem dX0_forgetOldest_61 : decode cX0_forgetOldest 61 = .ok (.return_, 1) := by decide +kernel
theorem dX0_takeBackLatest_0 : decode cX0_takeBackLatest 0 = .ok (.aload_n 0, 1) := by decide +kernel
theorem dX0_takeBackLatest_1 : decode cX0_takeBackLatest 1 = .ok (.dup, 1) := by decide +kernel
theorem dX0_takeBackLatest_2 : decode cX0_takeBackLatest 2 = .ok (.getfield 19, 3) := by decide +kernel
theorem dX0_takeBackLatest_5 : decode cX0_takeBackLatest 5 = .ok (.iconst 1, 1) := by decide +kernel
theorem dX0_takeBackLatest_6 : decode cX0_takeBackLatest 6 = .ok (.isub, 1) := by decide +kernel
theorem dX0_takeBackLatest_7 : decode cX0_takeBackLatest 7 = .ok (.putfield 19, 3) := by decide +kernel
theorem dX0_takeBackLatest_10 : decode cX0_takeBackLatest 10 = .ok (.aload_n 0, 1) := by decide +kernel
theorem dX0_takeBackLatest_11 : decode cX0_takeBackLatest 11 = .ok (.getfield 9, 3) := by decide +kernel
theorem dX0_takeBackLatest_14 : decode cX0_takeBackLatest 14 = .ok (.aload_n 0, 1) := by decide +kernel
theorem dX0_takeBackLatest_15 : decode cX0_takeBackLatest 15 = .ok (.getfield 19, 3) := by decide +kernel
theorem dX0_takeBackLatest_18 : decode cX0_takeBackLatest 18 = .ok (.iaload, 1) := by decide +kernel
theorem dX0_takeBackLatest_19 : decode cX0_takeBackLatest 19 = .ok (.ifCond .ne 10, 3) := by decide +kernel
theorem dX0_takeBackLatest_22 : decode cX0_takeBackLatest 22 = .ok (.aload_n 1, 1) := by decide +kernel
theorem dX0_takeBackLatest_23 : decode cX0_takeBackLatest 23 = .ok (.invokevirtual 32, 3) := by decide +kernel
theorem dX0_takeBackLatest_26 : decode cX0_takeBackLatest 26 = .ok (.goto 55, 3) := by decide +kernel
theorem dX0_takeBackLatest_29 : decode cX0_takeBackLatest 29 = .ok (.aload_n 0, 1) := by decide +kernel
theorem dX0_takeBackLatest_30 : decode cX0_takeBackLatest 30 = .ok (.getfield 9, 3) := by decide +kernel
theorem dX0_takeBackLatest_33 : decode cX0_takeBackLatest 33 = .ok (.aload_n 0, 1) := by decide +kernel
theorem dX0_takeBackLatest_34 : decode cX0_takeBackLatest 34 = .ok (.getfield 19, 3) := by decide +kernel
theorem dX0_takeBackLatest_37 : decode cX0_takeBackLatest 37 = .ok (.iaload, 1) := by decide +kernel
theorem dX0_takeBackLatest_38 : decode cX0_takeBackLatest 38 = .ok (.iconst 1, 1) := by decide +kernel
theorem dX0_takeBackLatest_39 : decode cX0_takeBackLatest 39 = .ok (.if_icmp .ne 20, 3) := by decide +kernel
theorem dX0_takeBackLatest_42 : decode cX0_takeBackLatest 42 = .ok (.aload_n 1, 1) := by decide +kernel
theorem dX0_takeBackLatest_43 : decode cX0_takeBackLatest 43 = .ok (.aload_n 0, 1) := by decide +kernel
theorem dX0_takeBackLatest_44 : decode cX0_takeBackLatest 44 = .ok (.getfield 16, 3) := by decide +kernel
theorem dX0_takeBackLatest_47 : decode cX0_takeBackLatest 47 = .ok (.aload_n 0, 1) := by decide +kernel
theorem dX0_takeBackLatest_48 : decode cX0_takeBackLatest 48 = .ok (.getfield 19, 3) := by decide +kernel
theorem dX0_takeBackLatest_51 : decode cX0_takeBackLatest 51 = .ok (.iaload, 1) := by decide +kernel
theorem dX0_takeBackLatest_52 : decode cX0_takeBackLatest 52 = .ok (.invokevirtual 37, 3) := by decide +kernel
theorem dX0_takeBackLatest_55 : decode cX0_takeBackLatest 55 = .ok (.pop, 1) := by decide +kernel
theorem dX0_takeBackLatest_56 : decode cX0_takeBackLatest 56 = .ok (.goto 25, 3) := by decide +kernel
theorem dX0_takeBackLatest_59 : decode cX0_takeBackLatest 59 = .ok (.aload_n 1, 1) := by decide +kernel
theorem dX0_takeBackLatest_60 : decode cX0_takeBackLatest 60 = .ok (.aload_n 0, 1) := by decide +kernel
theorem dX0_takeBackLatest_61 : decode cX0_takeBackLatest 61 = .ok (.getfield 13, 3) := by decide +kernel
theorem dX0_takeBackLatest_64 : decode cX0_takeBackLatest 64 = .ok (.aload_n 0, 1) := by decide +kernel
theorem dX0_takeBackLatest_65 : decode cX0_takeBackLatest 65 = .ok (.getfield 19, 3) := by decide +kernel
theorem dX0_takeBackLatest_68 : decode cX0_takeBackLatest 68 = .ok (.iaload, 1) := by decide +kernel
theorem dX0_takeBackLatest_69 : decode cX0_takeBackLatest 69 = .ok (.aload_n 0, 1) := by decide +kernel
theorem dX0_takeBackLatest_70 : decode cX0_takeBackLatest 70 = .ok (.getfield 16, 3) := by decide +kernel
theorem dX0_takeBackLatest_73 : decode cX0_takeBackLatest 73 = .ok (.aload_n 0, 1) := by decide +kernel
theorem dX0_takeBackLatest_74 : decode cX0_takeBackLatest 74 = .ok (.getfield 19, 3) := by decide +kernel
theorem dX0_takeBackLatest_77 : decode cX0_takeBackLatest 77 = .ok (.iaload, 1) := by decide +kernel
theorem dX0_takeBackLatest_78 : decode cX0_takeBackLatest 78 = .ok (.invokevirtual 41, 3) := by decide +kernel
theorem dX0_takeBackLatest_81 : decode cX0_takeBackLatest 81 = .ok (.return_, 1) := by decide +kernel
theorem dX0_forget_0 : decode cX0_forget 0 = .ok (.aload_n 0, 1) := by decide +kernel
theorem dX0_forget_1 : decode cX0_forget 1 = .ok (.iconst 0, 1) := by decide +kernel
theorem dX0_forget_2 : decode cX0_forget 2 = .ok (.putfield 19, 3) := by decide +kernel
theorem dX0_forget_5 : decode cX0_forget 5 = .ok (.return_, 1) := by decide +kernel
theorem dX1_init_0 : decode cX1_init 0 = .ok (.aload_n 0, 1) := by decide +kernel
theorem dX1_init_1 : decode cX1_init 1 = .ok (.invokespecial 3, 3) := by decide +kernel
theorem dX1_init_4 : decode cX1_init 4 = .ok (.aload_n 0, 1) := by decide +kernel
theorem dX1_init_5 : decode cX1_init 5 = .ok (.bipush 48, 2) := by decide +kernel
theorem dX1_init_7 : decode cX1_init 7 = .ok (.newarray .int, 2) := by decide +kernel
theorem dX1_init_9 : decode cX1_init 9 = .ok (.putfield 9, 3) := by decide +kernel
theorem dX1_init_12 : decode cX1_init 12 = .ok (.aload_n 0, 1) := by decide +kernel
theorem dX1_init_13 : decode cX1_init 13 = .ok (.bipush 48, 2) := by decide +kernel
theorem dX1_init_15 : decode cX1_init 15 = .ok (.newarray .int, 2) := by decide +kernel
theorem dX1_init_17 : decode cX1_init 17 = .ok (.putfield 15, 3) := by decide +kernel
theorem dX1_init_20 : decode cX1_init 20 = .ok (.aload_n 0, 1) := by decide +kernel
theorem dX1_init_21 : decode cX1_init 21 = .ok (.bipush 50, 2) := by decide +kernel
theorem dX1_init_23 : decode cX1_init 23 = .ok (.newarray .int, 2) := by decide +kernel
theorem dX1_init_25 : decode cX1_init 25 = .ok (.putfield 18, 3) := by decide +kernel
theorem dX1_init_28 : decode cX1_init 28 = .ok (.aload_n 0, 1) := by decide +kernel
theorem dX1_init_29 : decode cX1_init 29 = .ok (.bipush 50, 2) := by decide +kernel
theorem dX1_init_31 : decode cX1_init 31 = .ok (.newarray .int, 2) := by decide +kernel
theorem dX1_init_33 : decode cX1_init 33 = .ok (.putfield 21, 3) := by decide +kernel
theorem dX1_init_36 : decode cX1_init 36 = .ok (.aload_n 0, 1) := by decide +kernel
theorem dX1_init_37 : decode cX1_init 37 = .ok (.bipush 50, 2) := by decide +kernel
theorem dX1_init_39 : decode cX1_init 39 = .ok (.newarray .int, 2) := by decide +kernel
theorem dX1_init_41 : decode cX1_init 41 = .ok (.putfield 24, 3) := by decide +kernel
theorem dX1_init_44 : decode cX1_init 44 = .ok (.aload_n 0, 1) := by decide +kernel
theorem dX1_init_45 : decode cX1_init 45 = .ok (.bipush 50, 2) := by decide +kernel
theorem dX1_init_47 : decode cX1_init 47 = .ok (.newarray .int, 2) := by decide +kernel
theorem dX1_init_49 : decode cX1_init 49 = .ok (.putfield 27, 3) := by decide +kernel
theorem dX1_init_52 : decode cX1_init 52 = .ok (.aload_n 0, 1) := by decide +kernel
theorem dX1_init_53 : decode cX1_init 53 = .ok (.bipush 50, 2) := by decide +kernel
theorem dX1_init_55 : decode cX1_init 55 = .ok (.newarray .int, 2) := by decide +kernel
theorem dX1_init_57 : decode cX1_init 57 = .ok (.putfield 30, 3) := by decide +kernel
theorem dX1_init_60 : decode cX1_init 60 = .ok (.aload_n 0, 1) := by decide +kernel
theorem dX1_init_61 : decode cX1_init 61 = .ok (.bipush 50, 2) := by decide +kernel
theorem dX1_init_63 : decode cX1_init 63 = .ok (.newarray .int, 2) := by decide +kernel
theorem dX1_init_65 : decode cX1_init 65 = .ok (.putfield 33, 3) := by decide +kernel
theorem dX1_init_68 : decode cX1_init 68 = .ok (.aload_n 0, 1) := by decide +kernel
theorem dX1_init_69 : decode cX1_init 69 = .ok (.sipush 300, 3) := by decide +kernel
theorem dX1_init_72 : decode cX1_init 72 = .ok (.newarray .int, 2) := by decide +kernel
theorem dX1_init_74 : decode cX1_init 74 = .ok (.putfield 36, 3) := by decide +kernel
theorem dX1_init_77 : decode cX1_init 77 = .ok (.aload_n 0, 1) := by decide +kernel
theorem dX1_init_78 : decode cX1_init 78 = .ok (.getfield 18, 3) := by decide +kernel
theorem dX1_init_81 : decode cX1_init 81 = .ok (.bipush 49, 2) := by decide +kernel
theorem dX1_init_83 : decode cX1_init 83 = .ok (.iconst (-1), 1) := by decide +kernel
theorem dX1_init_84 : decode cX1_init 84 = .ok (.iastore, 1) := by decide +kernel
theorem dX1_init_85 : decode cX1_init 85 = .ok (.aload_n 0, 1) := by decide +kernel
theorem dX1_init_86 : decode cX1_init 86 = .ok (.getfield 21, 3) := by decide +kernel
theorem dX1_init_89 : decode cX1_init 89 = .ok (.bipush 48, 2) := by decide +kernel
theorem dX1_init_91 : decode cX1_init 91 = .ok (.bipush 49, 2) := by decide +kernel
theorem dX1_init_93 : decode cX1_init 93 = .ok (.iastore, 1) := by decide +kernel
theorem dX1_init_94 : decode cX1_init 94 = .ok (.aload_n 0, 1) := by decide +kernel
theorem dX1_init_95 : decode cX1_init 95 = .ok (.getfield 21, 3) := by decide +kernel
theorem dX1_init_98 : decode cX1_init 98 = .ok (.bipush 49, 2) := by decide +kernel
theorem dX1_init_100 : decode cX1_init 100 = .ok (.bipush 49, 2) := by decide +kernel
theorem dX1_init_102 : decode cX1_init 102 = .ok (.iastore, 1) := by decide +kernel
theorem dX1_init_103 : decode cX1_init 103 = .ok (.aload_n 0, 1) := by decide +kernel
theorem dX1_init_104 : decode cX1_init 104 = .ok (.getfield 24, 3) := by decide +kernel
theorem dX1_init_107 : decode cX1_init 107 = .ok (.bipush 48, 2) := by decide +kernel
theorem dX1_init_109 : decode cX1_init 109 = .ok (.bipush 48, 2) := by decide +kernel
theorem dX1_init_111 : decode cX1_init 111 = .ok (.iastore, 1) := by decide +kernel
theorem dX1_init_112 : decode cX1_init 112 = .ok (.aload_n 0, 1) := by decide +kernel
theorem dX1_init_113 : decode cX1_init 113 = .ok (.getfield 24, 3) := by decide +kernel
theorem dX1_init_116 : decode cX1_init 116 = .ok (.bipush 49, 2) := by decide +kernel
theorem dX1_init_118 : decode cX1_init 118 = .ok (.bipush 48, 2) := by decide +kernel
theorem dX1_init_120 : decode cX1_init 120 = .ok (.iastore, 1) := by decide +kernel
theorem dX1_init_121 : decode cX1_init 121 = .ok (.aload_n 0, 1) := by decide +kernel
theorem dX1_init_122 : decode cX1_init 122 = .ok (.getfield 36, 3) := by decide +kernel
theorem dX1_init_125 : decode cX1_init 125 = .ok (.iconst (-1), 1) := by decide +kernel
theorem dX1_init_126 : decode cX1_init 126 = .ok (.invokestatic 39, 3) := by decide +kernel
theorem dX1_init_129 : decode cX1_init 129 = .ok (.return_, 1) := by decide +kernel
theorem dX1_add_0 : decode cX1_add 0 = .ok (.aload_n 0, 1) := by decide +kernel
theorem dX1_add_1 : decode cX1_add 1 = .ok (.getfield 9, 3) := by decide +kernel
theorem dX1_add_4 : decode cX1_add 4 = .ok (.aload_n 0, 1) := by decide +kernel
theorem dX1_add_5 : decode cX1_add 5 = .ok (.getfield 45, 3) := by decide +kernel
theorem dX1_add_8 : decode cX1_add 8 = .ok (.iload_n 1, 1) := by decide +kernel
theorem dX1_add_9 : decode cX1_add 9 = .ok (.iastore, 1) := by decide +kernel
theorem dX1_add_10 : decode cX1_add 10 = .ok (.aload_n 0, 1) := by decide +kernel
theorem dX1_add_11 : decode cX1_add 11 = .ok (.aload_n 0, 1) := by decide +kernel
theorem dX1_add_12 : decode cX1_add 12 = .ok (.getfield 45, 3) := by decide +kernel
theorem dX1_add_15 : decode cX1_add 15 = .ok (.ifCond .ne 8, 3) := by decide +kernel
theorem dX1_add_18 : decode cX1_add 18 = .ok (.bipush 48, 2) := by decide +kernel
theorem dX1_add_20 : decode cX1_add 20 = .ok (.goto 14, 3) := by decide +kernel
theorem dX1_add_23 : decode cX1_add 23 = .ok (.aload_n 0, 1) := by decide +kernel
theorem dX1_add_24 : decode cX1_add 24 = .ok (.getfield 15, 3) := by decide +kernel
theorem dX1_add_27 : decode cX1_add 27 = .ok (.aload_n 0, 1) := by decide +kernel
theorem dX1_add_28 : decode cX1_add 28 = .ok (.getfield 45, 3) := by decide +kernel
theorem dX1_add_31 : decode cX1_add 31 = .ok (.iconst 1, 1) := by decide +kernel
theorem dX1_add_32 : decode cX1_add 32 = .ok (.isub, 1) := by decide +kernel
theorem dX1_add_33 : decode cX1_add 33 = .ok (.iaload, 1) := by decide +kernel
theorem dX1_add_34 : decode cX1_add 34 = .ok (.iload_n 1, 1) := by decide +kernel
theorem dX1_add_35 : decode cX1_add 35 = .ok (.invokevirtual 49, 3) := by decide +kernel
theorem dX1_add_38 : decode cX1_add 38 = .ok (.istore_n 2, 1) := by decide +kernel
theorem dX1_add_39 : decode cX1_add 39 = .ok (.aload_n 0, 1) := by decide +kernel
theorem dX1_add_40 : decode cX1_add 40 = .ok (.getfield 36, 3) := by decide +kernel
theorem dX1_add_43 : decode cX1_add 43 = .ok (.iload_n 2, 1) := by decide +kernel
theorem dX1_add_44 : decode cX1_add 44 = .ok (.iload_n 1, 1) := by decide +kernel
theorem dX1_add_45 : decode cX1_add 45 = .ok (.invokestatic 53, 3) := by decide +kernel
theorem dX1_add_48 : decode cX1_add 48 = .ok (.iaload, 1) := by decide +kernel
theorem dX1_add_49 : decode cX1_add 49 = .ok (.istore_n 3, 1) := by decide +kernel
theorem dX1_add_50 : decode cX1_add 50 = .ok (.iload_n 3, 1) := by decide +kernel
theorem dX1_add_51 : decode cX1_add 51 = .ok (.iconst (-1), 1) := by decide +kernel
theorem dX1_add_52 : decode cX1_add 52 = .ok (.if_icmp .ne 10, 3) := by decide +kernel
theorem dX1_add_55 : decode cX1_add 55 = .ok (.aload_n 0, 1) := by decide +kernel
theorem dX1_add_56 : decode cX1_add 56 = .ok (.iload_n 2, 1) := by decide +kernel
theorem dX1_add_57 : decode cX1_add 57 = .ok (.iload_n 1, 1) := by decide +kernel
theorem dX1_add_58 : decode cX1_add 58 = .ok (.invokevirtual 56, 3) := by decide +kernel
theorem dX1_add_61 : decode cX1_add 61 = .ok (.istore_n 3, 1) := by decide +kernel
theorem dX1_add_62 : decode cX1_add 62 = .ok (.aload_n 0, 1) := by decide +kernel
theorem dX1_add_63 : decode cX1_add 63 = .ok (.getfield 15, 3) := by decide +kernel
theorem dX1_add_66 : decode cX1_add 66 = .ok (.aload_n 0, 1) := by decide +kernel
theorem dX1_add_67 : decode cX1_add 67 = .ok (.getfield 45, 3) := by decide +kernel
theorem dX1_add_70 : decode cX1_add 70 = .ok (.iload_n 3, 1) := by decide +kernel
theorem dX1_add_71 : decode cX1_add 71 = .ok (.iastore, 1) := by decide +kernel
theorem dX1_add_72 : decode cX1_add 72 = .ok (.aload_n 0, 1) := by decide +kernel
theorem dX1_add_73 : decode cX1_add 73 = .ok (.dup, 1) := by decide +kernel
theorem dX1_add_74 : decode cX1_add 74 = .ok (.getfield 45, 3) := by decide +kernel
theorem dX1_add_77 : decode cX1_add 77 = .ok (.iconst 1, 1) := by decide +kernel
theorem dX1_add_78 : decode cX1_add 78 = .ok (.iadd, 1) := by decide +kernel
theorem dX1_add_79 : decode cX1_add 79 = .ok (.putfield 45, 3) := by decide +kernel
theorem dX1_add_82 : decode cX1_add 82 = .ok (.aload_n 0, 1) := by decide +kernel
theorem dX1_add_83 : decode cX1_add 83 = .ok (.getfield 18, 3) := by decide +kernel
theorem dX1_add_86 : decode cX1_add 86 = .ok (.iload_n 3, 1) := by decide +kernel
theorem dX1_add_87 : decode cX1_add 87 = .ok (.iaload, 1) := by decide +kernel
theorem dX1_add_88 : decode cX1_add 88 = .ok (.ireturn, 1) := by decide +kernel
theorem dX1_longestBehind_0 : decode cX1_longestBehind 0 = .ok (.iload_n 1, 1) := by decide +kernel
theorem dX1_longestBehind_1 : decode cX1_longestBehind 1 = .ok (.istore_n 3, 1) := by decide +kernel
theorem dX1_longestBehind_2 : decode cX1_longestBehind 2 = .ok (.iconst 0, 1) := by decide +kernel
theorem dX1_longestBehind_3 : decode cX1_longestBehind 3 = .ok (.istore 4, 2) := by decide +kernel
theorem dX1_longestBehind_5 : decode cX1_longestBehind 5 = .ok (.iload 4, 2) := by decide +kernel
theorem dX1_longestBehind_7 : decode cX1_longestBehind 7 = .ok (.bipush 50, 2) := by decide +kernel
theorem dX1_longestBehind_9 : decode cX1_longestBehind 9 = .ok (.if_icmp .ge 49, 3) := by decide +kernel
theorem dX1_longestBehind_12 : decode cX1_longestBehind 12 = .ok (.aload_n 0, 1) := by decide +kernel
theorem dX1_longestBehind_13 : decode cX1_longestBehind 13 = .ok (.getfield 45, 3) := by decide +kernel
theorem dX1_longestBehind_16 : decode cX1_longestBehind 16 = .ok (.iconst 1, 1) := by decide +kernel
theorem dX1_longestBehind_17 : decode cX1_longestBehind 17 = .ok (.isub, 1) := by decide +kernel
theorem dX1_longestBehind_18 : decode cX1_longestBehind 18 = .ok (.aload_n 0, 1) := by decide +kernel
theorem dX1_longestBehind_19 : decode cX1_longestBehind 19 = .ok (.getfield 18, 3) := by decide +kernel
theorem dX1_longestBehind_22 : decode cX1_longestBehind 22 = .ok (.iload_n 3, 1) := by decide +kernel
theorem dX1_longestBehind_23 : decode cX1_longestBehind 23 = .ok (.iaload, 1) := by decide +kernel
theorem dX1_longestBehind_24 : decode cX1_longestBehind 24 = .ok (.isub, 1) := by decide +kernel
theorem dX1_longestBehind_25 : decode cX1_longestBehind 25 = .ok (.istore 5, 2) := by decide +kernel
theorem dX1_longestBehind_27 : decode cX1_longestBehind 27 = .ok (.iload 5, 2) := by decide +kernel
theorem dX1_longestBehind_29 : decode cX1_longestBehind 29 = .ok (.ifCond .lt 16, 3) := by decide +kernel
theorem dX1_longestBehind_32 : decode cX1_longestBehind 32 = .ok (.aload_n 0, 1) := by decide +kernel
theorem dX1_longestBehind_33 : decode cX1_longestBehind 33 = .ok (.getfield 9, 3) := by decide +kernel
theorem dX1_longestBehind_36 : decode cX1_longestBehind 36 = .ok (.iload 5, 2) := by decide +kernel
theorem dX1_longestBehind_38 : decode cX1_longestBehind 38 = .ok (.iaload, 1) := by decide +kernel
theorem dX1_longestBehind_39 : decode cX1_longestBehind 39 = .ok (.iload_n 2, 1) := by decide +kernel
theorem dX1_longestBehind_40 : decode cX1_longestBehind 40 = .ok (.if_icmp .ne 5, 3) := by decide +kernel
theorem dX1_longestBehind_43 : decode cX1_longestBehind 43 = .ok (.iload_n 3, 1) := by decide +kernel
theorem dX1_longestBehind_44 : decode cX1_longestBehind 44 = .ok (.ireturn, 1) := by decide +kernel
theorem dX1_longestBehind_45 : decode cX1_longestBehind 45 = .ok (.aload_n 0, 1) := by decide +kernel
theorem dX1_longestBehind_46 : decode cX1_longestBehind 46 = .ok (.getfield 21, 3) := by decide +kernel
theorem dX1_longestBehind_49 : decode cX1_longestBehind 49 = .ok (.iload_n 3, 1) := by decide +kernel
theorem dX1_longestBehind_50 : decode cX1_longestBehind 50 = .ok (.iaload, 1) := by decide +kernel
theorem dX1_longestBehind_51 : decode cX1_longestBehind 51 = .ok (.istore_n 3, 1) := by decide +kernel
theorem dX1_longestBehind_52 : decode cX1_longestBehind 52 = .ok (.iinc 4 1, 3) := by decide +kernel
theorem dX1_longestBehind_55 : decode cX1_longestBehind 55 = .ok (.goto (-50), 3) := by decide +kernel
theorem dX1_longestBehind_58 : decode cX1_longestBehind 58 = .ok (.bipush 49, 2) := by decide +kernel
theorem dX1_longestBehind_60 : decode cX1_longestBehind 60 = .ok (.ireturn, 1) := by decide +kernel
theorem dX1_create_0 : decode cX1_create 0 = .ok (.aload_n 0, 1) := by decide +kernel
theorem dX1_create_1 : decode cX1_create 1 = .ok (.getfield 59, 3) := by decide +kernel
theorem dX1_create_4 : decode cX1_create 4 = .ok (.istore_n 3, 1) := by decide +kernel
theorem dX1_create_5 : decode cX1_create 5 = .ok (.aload_n 0, 1) := by decide +kernel
theorem dX1_create_6 : decode cX1_create 6 = .ok (.getfield 18, 3) := by decide +kernel
theorem dX1_create_9 : decode cX1_create 9 = .ok (.iload_n 3, 1) := by decide +kernel
theorem dX1_create_10 : decode cX1_create 10 = .ok (.aload_n 0, 1) := by decide +kernel
theorem dX1_create_11 : decode cX1_create 11 = .ok (.getfield 18, 3) := by decide +kernel
theorem dX1_create_14 : decode cX1_create 14 = .ok (.iload_n 1, 1) := by decide +kernel
theorem dX1_create_15 : decode cX1_create 15 = .ok (.iaload, 1) := by decide +kernel
theorem dX1_create_16 : decode cX1_create 16 = .ok (.iconst 2, 1) := by decide +kernel
theorem dX1_create_17 : decode cX1_create 17 = .ok (.iadd, 1) := by decide +kernel
theorem dX1_create_18 : decode cX1_create 18 = .ok (.iastore, 1) := by decide +kernel
theorem dX1_create_19 : decode cX1_create 19 = .ok (.aload_n 0, 1) := by decide +kernel
theorem dX1_create_20 : decode cX1_create 20 = .ok (.getfield 27, 3) := by decide +kernel
theorem dX1_create_23 : decode cX1_create 23 = .ok (.iload_n 3, 1) := by decide +kernel
theorem dX1_create_24 : decode cX1_create 24 = .ok (.iload_n 1, 1) := by decide +kernel
theorem dX1_create_25 : decode cX1_create 25 = .ok (.iastore, 1) := by decide +kernel
theorem dX1_create_26 : decode cX1_create 26 = .ok (.aload_n 0, 1) := by decide +kernel
theorem dX1_create_27 : decode cX1_create 27 = .ok (.getfield 30, 3) := by decide +kernel
theorem dX1_create_30 : decode cX1_create 30 = .ok (.iload_n 3, 1) := by decide +kernel
theorem dX1_create_31 : decode cX1_create 31 = .ok (.aload_n 0, 1) := by decide +kernel
theorem dX1_create_32 : decode cX1_create 32 = .ok (.getfield 45, 3) := by decide +kernel
theorem dX1_create_35 : decode cX1_create 35 = .ok (.iastore, 1) := by decide +kernel
theorem dX1_create_36 : decode cX1_create 36 = .ok (.iload_n 1, 1) := by decide +kernel
theorem dX1_create_37 : decode cX1_create 37 = .ok (.bipush 49, 2) := by decide +kernel
theorem dX1_create_39 : decode cX1_create 39 = .ok (.if_icmp .ne 8, 3) := by decide +kernel
theorem dX1_create_42 : decode cX1_create 42 = .ok (.bipush 48, 2) := by decide +kernel
theorem dX1_create_44 : decode cX1_create 44 = .ok (.goto 23, 3) := by decide +kernel
theorem dX1_create_47 : decode cX1_create 47 = .ok (.aload_n 0, 1) := by decide +kernel
theorem dX1_create_48 : decode cX1_create 48 = .ok (.getfield 36, 3) := by decide +kernel
theorem dX1_create_51 : decode cX1_create 51 = .ok (.aload_n 0, 1) := by decide +kernel
theorem dX1_create_52 : decode cX1_create 52 = .ok (.aload_n 0, 1) := by decide +kernel
theorem dX1_create_53 : decode cX1_create 53 = .ok (.getfield 21, 3) := by decide +kernel
theorem dX1_create_56 : decode cX1_create 56 = .ok (.iload_n 1, 1) := by decide +kernel
theorem dX1_create_57 : decode cX1_create 57 = .ok (.iaload, 1) := by decide +kernel
theorem dX1_create_58 : decode cX1_create 58 = .ok (.iload_n 2, 1) := by decide +kernel
theorem dX1_create_59 : decode cX1_create 59 = .ok (.invokevirtual 49, 3) := by decide +kernel
theorem dX1_create_62 : decode cX1_create 62 = .ok (.iload_n 2, 1) := by decide +kernel
theorem dX1_create_63 : decode cX1_create 63 = .ok (.invokestatic 53, 3) := by decide +kernel
theorem dX1_create_66 : decode cX1_create 66 = .ok (.iaload, 1) := by decide +kernel
theorem dX1_create_67 : decode cX1_create 67 = .ok (.istore 4, 2) := by decide +kernel
theorem dX1_create_69 : decode cX1_create 69 = .ok (.aload_n 0, 1) := by decide +kernel
theorem dX1_create_70 : decode cX1_create 70 = .ok (.getfield 21, 3) := by decide +kernel
theorem dX1_create_73 : decode cX1_create 73 = .ok (.iload_n 3, 1) := by decide +kernel
theorem dX1_create_74 : decode cX1_create 74 = .ok (.iload 4, 2) := by decide +kernel
theorem dX1_create_76 : decode cX1_create 76 = .ok (.iastore, 1) := by decide +kernel
theorem dX1_create_77 : decode cX1_create 77 = .ok (.aload_n 0, 1) := by decide +kernel
theorem dX1_create_78 : decode cX1_create 78 = .ok (.getfield 33, 3) := by decide +kernel
theorem dX1_create_81 : decode cX1_create 81 = .ok (.iload_n 3, 1) := by decide +kernel
theorem dX1_create_82 : decode cX1_create 82 = .ok (.aload_n 0, 1) := by decide +kernel
theorem dX1_create_83 : decode cX1_create 83 = .ok (.getfield 33, 3) := by decide +kernel
theorem dX1_create_86 : decode cX1_create 86 = .ok (.iload 4, 2) := by decide +kernel
theorem dX1_create_88 : decode cX1_create 88 = .ok (.iaload, 1) := by decide +kernel
theorem dX1_create_89 : decode cX1_create 89 = .ok (.iconst 1, 1) := by decide +kernel
theorem dX1_create_90 : decode cX1_create 90 = .ok (.iadd, 1) := by decide +kernel
theorem dX1_create_91 : decode cX1_create 91 = .ok (.iastore, 1) := by decide +kernel
theorem dX1_create_92 : decode cX1_create 92 = .ok (.aload_n 0, 1) := by decide +kernel
theorem dX1_create_93 : decode cX1_create 93 = .ok (.getfield 24, 3) := by decide +kernel
theorem dX1_create_96 : decode cX1_create 96 = .ok (.iload_n 3, 1) := by decide +kernel
theorem dX1_create_97 : decode cX1_create 97 = .ok (.aload_n 0, 1) := by decide +kernel
theorem dX1_create_98 : decode cX1_create 98 = .ok (.iload_n 3, 1) := by decide +kernel
theorem dX1_create_99 : decode cX1_create 99 = .ok (.invokevirtual 62, 3) := by decide +kernel
theorem dX1_create_102 : decode cX1_create 102 = .ok (.aload_n 0, 1) := by decide +kernel
theorem dX1_create_103 : decode cX1_create 103 = .ok (.iload 4, 2) := by decide +kernel
theorem dX1_create_105 : decode cX1_create 105 = .ok (.invokevirtual 62, 3) := by decide +kernel
theorem dX1_create_108 : decode cX1_create 108 = .ok (.if_icmp .ne 13, 3) := by decide +kernel
theorem dX1_create_111 : decode cX1_create 111 = .ok (.aload_n 0, 1) := by decide +kernel
theorem dX1_create_112 : decode cX1_create 112 = .ok (.getfield 24, 3) := by decide +kernel
theorem dX1_create_115 : decode cX1_create 115 = .ok (.iload 4, 2) := by decide +kernel
theorem dX1_create_117 : decode cX1_create 117 = .ok (.iaload, 1) := by decide +kernel
theorem dX1_create_118 : decode cX1_create 118 = .ok (.goto 5, 3) := by decide +kernel
theorem dX1_create_121 : decode cX1_create 121 = .ok (.iload 4, 2) := by decide +kernel
theorem dX1_create_123 : decode cX1_create 123 = .ok (.iastore, 1) := by decide +kernel
theorem dX1_create_124 : decode cX1_create 124 = .ok (.aload_n 0, 1) := by decide +kernel
theorem dX1_create_125 : decode cX1_create 125 = .ok (.getfield 36, 3) := by decide +kernel
theorem dX1_create_128 : decode cX1_create 128 = .ok (.iload_n 1, 1) := by decide +kernel
theorem dX1_create_129 : decode cX1_create 129 = .ok (.iload_n 2, 1) := by decide +kernel
theorem dX1_create_130 : decode cX1_create 130 = .ok (.invokestatic 53, 3) := by decide +kernel
theorem dX1_create_133 : decode cX1_create 133 = .ok (.iload_n 3, 1) := by decide +kernel
theorem dX1_create_134 : decode cX1_create 134 = .ok (.iastore, 1) := by decide +kernel
theorem dX1_create_135 : decode cX1_create 135 = .ok (.aload_n 0, 1) := by decide +kernel
theorem dX1_create_136 : decode cX1_create 136 = .ok (.dup, 1) := by decide +kernel
theorem dX1_create_137 : decode cX1_create 137 = .ok (.getfield 59, 3) := by decide +kernel
theorem dX1_create_140 : decode cX1_create 140 = .ok (.iconst 1, 1) := by decide +kernel
theorem dX1_create_141 : decode cX1_create 141 = .ok (.iadd, 1) := by decide +kernel
theorem dX1_create_142 : decode cX1_create 142 = .ok (.putfield 59, 3) := by decide +kernel
theorem dX1_create_145 : decode cX1_create 145 = .ok (.iload_n 3, 1) := by decide +kernel
theorem dX1_create_146 : decode cX1_create 146 = .ok (.ireturn, 1) := by decide +kernel
theorem dX1_edge_0 : decode cX1_edge 0 = .ok (.iload_n 0, 1) := by decide +kernel
theorem dX1_edge_1 : decode cX1_edge 1 = .ok (.bipush 6, 2) := by decide +kernel
theorem dX1_edge_3 : decode cX1_edge 3 = .ok (.imul, 1) := by decide +kernel
theorem dX1_edge_4 : decode cX1_edge 4 = .ok (.iload_n 1, 1) := by decide +kernel
theorem dX1_edge_5 : decode cX1_edge 5 = .ok (.iadd, 1) := by decide +kernel
theorem dX1_edge_6 : decode cX1_edge 6 = .ok (.bipush 97, 2) := by decide +kernel
theorem dX1_edge_8 : decode cX1_edge 8 = .ok (.isub, 1) := by decide +kernel
theorem dX1_edge_9 : decode cX1_edge 9 = .ok (.ireturn, 1) := by decide +kernel
theorem dX1_removeLast_0 : decode cX1_removeLast 0 = .ok (.aload_n 0, 1) := by decide +kernel
theorem dX1_removeLast_1 : decode cX1_removeLast 1 = .ok (.dup, 1) := by decide +kernel
theorem dX1_removeLast_2 : decode cX1_removeLast 2 = .ok (.getfield 45, 3) := by decide +kernel
theorem dX1_removeLast_5 : decode cX1_removeLast 5 = .ok (.iconst 1, 1) := by decide +kernel
theorem dX1_removeLast_6 : decode cX1_removeLast 6 = .ok (.isub, 1) := by decide +kernel
theorem dX1_removeLast_7 : decode cX1_removeLast 7 = .ok (.putfield 45, 3) := by decide +kernel
theorem dX1_removeLast_10 : decode cX1_removeLast 10 = .ok (.aload_n 0, 1) := by decide +kernel
theorem dX1_removeLast_11 : decode cX1_removeLast 11 = .ok (.getfield 15, 3) := by decide +kernel
theorem dX1_removeLast_14 : decode cX1_removeLast 14 = .ok (.aload_n 0, 1) := by decide +kernel
theorem dX1_removeLast_15 : decode cX1_removeLast 15 = .ok (.getfield 45, 3) := by decide +kernel
theorem dX1_removeLast_18 : decode cX1_removeLast 18 = .ok (.iaload, 1) := by decide +kernel
theorem dX1_removeLast_19 : decode cX1_removeLast 19 = .ok (.istore_n 1, 1) := by decide +kernel
theorem dX1_removeLast_20 : decode cX1_removeLast 20 = .ok (.aload_n 0, 1) := by decide +kernel
theorem dX1_removeLast_21 : decode cX1_removeLast 21 = .ok (.getfield 30, 3) := by decide +kernel
theorem dX1_removeLast_24 : decode cX1_removeLast 24 = .ok (.iload_n 1, 1) := by decide +kernel
theorem dX1_removeLast_25 : decode cX1_removeLast 25 = .ok (.iaload, 1) := by decide +kernel
theorem dX1_removeLast_26 : decode cX1_removeLast 26 = .ok (.aload_n 0, 1) := by decide +kernel
theorem dX1_removeLast_27 : decode cX1_removeLast 27 = .ok (.getfield 45, 3) := by decide +kernel
theorem dX1_removeLast_30 : decode cX1_removeLast 30 = .ok (.if_icmp .ne 37, 3) := by decide +kernel
theorem dX1_removeLast_33 : decode cX1_removeLast 33 = .ok (.aload_n 0, 1) := by decide +kernel
theorem dX1_removeLast_34 : decode cX1_removeLast 34 = .ok (.getfield 36, 3) := by decide +kernel
theorem dX1_removeLast_37 : decode cX1_removeLast 37 = .ok (.aload_n 0, 1) := by decide +kernel
theorem dX1_removeLast_38 : decode cX1_removeLast 38 = .ok (.getfield 27, 3) := by decide +kernel
theorem dX1_removeLast_41 : decode cX1_removeLast 41 = .ok (.iload_n 1, 1) := by decide +kernel
theorem dX1_removeLast_42 : decode cX1_removeLast 42 = .ok (.iaload, 1) := by decide +kernel
theorem dX1_removeLast_43 : decode cX1_removeLast 43 = .ok (.aload_n 0, 1) := by decide +kernel
theorem dX1_removeLast_44 : decode cX1_removeLast 44 = .ok (.getfield 9, 3) := by decide +kernel
theorem dX1_removeLast_47 : decode cX1_removeLast 47 = .ok (.aload_n 0, 1) := by decide +kernel
theorem dX1_removeLast_48 : decode cX1_removeLast 48 = .ok (.getfield 45, 3) := by decide +kernel
theorem dX1_removeLast_51 : decode cX1_removeLast 51 = .ok (.iaload, 1) := by decide +kernel
theorem dX1_removeLast_52 : decode cX1_removeLast 52 = .ok (.invokestatic 53, 3) := by decide +kernel
theorem dX1_removeLast_55 : decode cX1_removeLast 55 = .ok (.iconst (-1), 1) := by decide +kernel
theorem dX1_removeLast_56 : decode cX1_removeLast 56 = .ok (.iastore, 1) := by decide +kernel
theorem dX1_removeLast_57 : decode cX1_removeLast 57 = .ok (.aload_n 0, 1) := by decide +kernel
theorem dX1_removeLast_58 : decode cX1_removeLast 58 = .ok (.dup, 1) := by decide +kernel
theorem dX1_removeLast_59 : decode cX1_removeLast 59 = .ok (.getfield 59, 3) := by decide +kernel
theorem dX1_removeLast_62 : decode cX1_removeLast 62 = .ok (.iconst 1, 1) := by decide +kernel
theorem dX1_removeLast_63 : decode cX1_removeLast 63 = .ok (.isub, 1) := by decide +kernel
theorem dX1_removeLast_64 : decode cX1_removeLast 64 = .ok (.putfield 59, 3) := by decide +kernel
theorem dX1_removeLast_67 : decode cX1_removeLast 67 = .ok (.return_, 1) := by decide +kernel
theorem dX1_load_0 : decode cX1_load 0 = .ok (.aload_n 0, 1) := by decide +kernel
theorem dX1_load_1 : decode cX1_load 1 = .ok (.iconst 0, 1) := by decide +kernel
theorem dX1_load_2 : decode cX1_load 2 = .ok (.invokevirtual 66, 3) := by decide +kernel
theorem dX1_load_5 : decode cX1_load 5 = .ok (.iload_n 2, 1) := by decide +kernel
theorem dX1_load_6 : decode cX1_load 6 = .ok (.istore 4, 2) := by decide +kernel
theorem dX1_load_8 : decode cX1_load 8 = .ok (.iload 4, 2) := by decide +kernel
theorem dX1_load_10 : decode cX1_load 10 = .ok (.iload_n 3, 1) := by decide +kernel
theorem dX1_load_11 : decode cX1_load 11 = .ok (.if_icmp .ge 18, 3) := by decide +kernel
theorem dX1_load_14 : decode cX1_load 14 = .ok (.aload_n 0, 1) := by decide +kernel
theorem dX1_load_15 : decode cX1_load 15 = .ok (.aload_n 1, 1) := by decide +kernel
theorem dX1_load_16 : decode cX1_load 16 = .ok (.iload 4, 2) := by decide +kernel
theorem dX1_load_18 : decode cX1_load 18 = .ok (.iaload, 1) := by decide +kernel
theorem dX1_load_19 : decode cX1_load 19 = .ok (.invokevirtual 70, 3) := by decide +kernel
theorem dX1_load_22 : decode cX1_load 22 = .ok (.pop, 1) := by decide +kernel
theorem dX1_load_23 : decode cX1_load 23 = .ok (.iinc 4 1, 3) := by decide +kernel
theorem dX1_load_26 : decode cX1_load 26 = .ok (.goto (-18), 3) := by decide +kernel
theorem dX1_load_29 : decode cX1_load 29 = .ok (.return_, 1) := by decide +kernel
theorem dX1_lengthen_0 : decode cX1_lengthen 0 = .ok (.iconst 0, 1) := by decide +kernel
theorem dX1_lengthen_1 : decode cX1_lengthen 1 = .ok (.istore_n 2, 1) := by decide +kernel
theorem dX1_lengthen_2 : decode cX1_lengthen 2 = .ok (.iload_n 2, 1) := by decide +kernel
theorem dX1_lengthen_3 : decode cX1_lengthen 3 = .ok (.iload_n 1, 1) := by decide +kernel
theorem dX1_lengthen_4 : decode cX1_lengthen 4 = .ok (.if_icmp .ge 16, 3) := by decide +kernel
theorem dX1_lengthen_7 : decode cX1_lengthen 7 = .ok (.aload_n 0, 1) := by decide +kernel
theorem dX1_lengthen_8 : decode cX1_lengthen 8 = .ok (.bipush 97, 2) := by decide +kernel
theorem dX1_lengthen_10 : decode cX1_lengthen 10 = .ok (.invokevirtual 70, 3) := by decide +kernel
theorem dX1_lengthen_13 : decode cX1_lengthen 13 = .ok (.pop, 1) := by decide +kernel
theorem dX1_lengthen_14 : decode cX1_lengthen 14 = .ok (.iinc 2 1, 3) := by decide +kernel
theorem dX1_lengthen_17 : decode cX1_lengthen 17 = .ok (.goto (-15), 3) := by decide +kernel
theorem dX1_lengthen_20 : decode cX1_lengthen 20 = .ok (.return_, 1) := by decide +kernel
theorem dX1_shorten_0 : decode cX1_shorten 0 = .ok (.aload_n 0, 1) := by decide +kernel
theorem dX1_shorten_1 : decode cX1_shorten 1 = .ok (.getfield 45, 3) := by decide +kernel
theorem dX1_shorten_4 : decode cX1_shorten 4 = .ok (.istore_n 2, 1) := by decide +kernel
theorem dX1_shorten_5 : decode cX1_shorten 5 = .ok (.iload_n 2, 1) := by decide +kernel
theorem dX1_shorten_6 : decode cX1_shorten 6 = .ok (.iload_n 1, 1) := by decide +kernel
theorem dX1_shorten_7 : decode cX1_shorten 7 = .ok (.if_icmp .le 13, 3) := by decide +kernel
theorem dX1_shorten_10 : decode cX1_shorten 10 = .ok (.aload_n 0, 1) := by decide +kernel
theorem dX1_shorten_11 : decode cX1_shorten 11 = .ok (.invokevirtual 73, 3) := by decide +kernel
theorem dX1_shorten_14 : decode cX1_shorten 14 = .ok (.iinc 2 (-1), 3) := by decide +kernel
theorem dX1_shorten_17 : decode cX1_shorten 17 = .ok (.goto (-12), 3) := by decide +kernel
theorem dX1_shorten_20 : decode cX1_shorten 20 = .ok (.return_, 1) := by decide +kernel
theorem dX1_replace_0 : decode cX1_replace 0 = .ok (.aload_n 0, 1) := by decide +kernel
theorem dX1_replace_1 : decode cX1_replace 1 = .ok (.getfield 45, 3) := by decide +kernel
theorem dX1_replace_4 : decode cX1_replace 4 = .ok (.istore_n 3, 1) := by decide +kernel
theorem dX1_replace_5 : decode cX1_replace 5 = .ok (.aload_n 0, 1) := by decide +kernel
theorem dX1_replace_6 : decode cX1_replace 6 = .ok (.iload_n 1, 1) := by decide +kernel
theorem dX1_replace_7 : decode cX1_replace 7 = .ok (.invokevirtual 66, 3) := by decide +kernel
theorem dX1_replace_10 : decode cX1_replace 10 = .ok (.aload_n 0, 1) := by decide +kernel
theorem dX1_replace_11 : decode cX1_replace 11 = .ok (.iload_n 2, 1) := by decide +kernel
theorem dX1_replace_12 : decode cX1_replace 12 = .ok (.invokevirtual 70, 3) := by decide +kernel
theorem dX1_replace_15 : decode cX1_replace 15 = .ok (.pop, 1) := by decide +kernel
theorem dX1_replace_16 : decode cX1_replace 16 = .ok (.iload_n 1, 1) := by decide +kernel
theorem dX1_replace_17 : decode cX1_replace 17 = .ok (.iconst 1, 1) := by decide +kernel
theorem dX1_replace_18 : decode cX1_replace 18 = .ok (.iadd, 1) := by decide +kernel
theorem dX1_replace_19 : decode cX1_replace 19 = .ok (.istore 4, 2) := by decide +kernel
theorem dX1_replace_21 : decode cX1_replace 21 = .ok (.iload 4, 2) := by decide +kernel
theorem dX1_replace_23 : decode cX1_replace 23 = .ok (.iload_n 3, 1) := by decide +kernel
theorem dX1_replace_24 : decode cX1_replace 24 = .ok (.if_icmp .ge 21, 3) := by decide +kernel
theorem dX1_replace_27 : decode cX1_replace 27 = .ok (.aload_n 0, 1) := by decide +kernel
theorem dX1_replace_28 : decode cX1_replace 28 = .ok (.aload_n 0, 1) := by decide +kernel
theorem dX1_replace_29 : decode cX1_replace 29 = .ok (.getfield 9, 3) := by decide +kernel
theorem dX1_replace_32 : decode cX1_replace 32 = .ok (.iload 4, 2) := by decide +kernel
theorem dX1_replace_34 : decode cX1_replace 34 = .ok (.iaload, 1) := by decide +kernel
theorem dX1_replace_35 : decode cX1_replace 35 = .ok (.invokevirtual 70, 3) := by decide +kernel
theorem dX1_replace_38 : decode cX1_replace 38 = .ok (.pop, 1) := by decide +kernel
theorem dX1_replace_39 : decode cX1_replace 39 = .ok (.iinc 4 1, 3) := by decide +kernel
theorem dX1_replace_42 : decode cX1_replace 42 = .ok (.goto (-21), 3) := by decide +kernel
theorem dX1_replace_45 : decode cX1_replace 45 = .ok (.return_, 1) := by decide +kernel
theorem dX1_lastLetter_0 : decode cX1_lastLetter 0 = .ok (.aload_n 0, 1) := by decide +kernel
theorem dX1_lastLetter_1 : decode cX1_lastLetter 1 = .ok (.getfield 45, 3) := by decide +kernel
theorem dX1_lastLetter_4 : decode cX1_lastLetter 4 = .ok (.ifCond .ne 7, 3) := by decide +kernel
theorem dX1_lastLetter_7 : decode cX1_lastLetter 7 = .ok (.iconst (-1), 1) := by decide +kernel
theorem dX1_lastLetter_8 : decode cX1_lastLetter 8 = .ok (.goto 14, 3) := by decide +kernel
theorem dX1_lastLetter_11 : decode cX1_lastLetter 11 = .ok (.aload_n 0, 1) := by decide +kernel
theorem dX1_lastLetter_12 : decode cX1_lastLetter 12 = .ok (.getfield 9, 3) := by decide +kernel
theorem dX1_lastLetter_15 : decode cX1_lastLetter 15 = .ok (.aload_n 0, 1) := by decide +kernel
theorem dX1_lastLetter_16 : decode cX1_lastLetter 16 = .ok (.getfield 45, 3) := by decide +kernel
theorem dX1_lastLetter_19 : decode cX1_lastLetter 19 = .ok (.iconst 1, 1) := by decide +kernel
theorem dX1_lastLetter_20 : decode cX1_lastLetter 20 = .ok (.isub, 1) := by decide +kernel
theorem dX1_lastLetter_21 : decode cX1_lastLetter 21 = .ok (.iaload, 1) := by decide +kernel
theorem dX1_lastLetter_22 : decode cX1_lastLetter 22 = .ok (.ireturn, 1) := by decide +kernel
theorem dX1_less_0 : decode cX1_less 0 = .ok (.aload_n 0, 1) := by decide +kernel
theorem dX1_less_1 : decode cX1_less 1 = .ok (.getfield 18, 3) := by decide +kernel
theorem dX1_less_4 : decode cX1_less 4 = .ok (.iload_n 1, 1) := by decide +kernel
theorem dX1_less_5 : decode cX1_less 5 = .ok (.iaload, 1) := by decide +kernel
theorem dX1_less_6 : decode cX1_less 6 = .ok (.aload_n 0, 1) := by decide +kernel
theorem dX1_less_7 : decode cX1_less 7 = .ok (.getfield 18, 3) := by decide +kernel
theorem dX1_less_10 : decode cX1_less 10 = .ok (.aload_n 0, 1) := by decide +kernel
theorem dX1_less_11 : decode cX1_less 11 = .ok (.getfield 21, 3) := by decide +kernel
theorem dX1_less_14 : decode cX1_less 14 = .ok (.iload_n 1, 1) := by decide +kernel
theorem dX1_less_15 : decode cX1_less 15 = .ok (.iaload, 1) := by decide +kernel
theorem dX1_less_16 : decode cX1_less 16 = .ok (.iaload, 1) := by decide +kernel
theorem dX1_less_17 : decode cX1_less 17 = .ok (.isub, 1) := by decide +kernel
theorem dX1_less_18 : decode cX1_less 18 = .ok (.ireturn, 1) := by decide +kernel
theorem dX1_firstPlace_0 : decode cX1_firstPlace 0 = .ok (.aload_n 0, 1) := by decide +kernel
theorem dX1_firstPlace_1 : decode cX1_firstPlace 1 = .ok (.getfield 30, 3) := by decide +kernel
theorem dX1_firstPlace_4 : decode cX1_firstPlace 4 = .ok (.iload_n 1, 1) := by decide +kernel
theorem dX1_firstPlace_5 : decode cX1_firstPlace 5 = .ok (.iaload, 1) := by decide +kernel
theorem dX1_firstPlace_6 : decode cX1_firstPlace 6 = .ok (.aload_n 0, 1) := by decide +kernel
theorem dX1_firstPlace_7 : decode cX1_firstPlace 7 = .ok (.getfield 18, 3) := by decide +kernel
theorem dX1_firstPlace_10 : decode cX1_firstPlace 10 = .ok (.iload_n 1, 1) := by decide +kernel
theorem dX1_firstPlace_11 : decode cX1_firstPlace 11 = .ok (.iaload, 1) := by decide +kernel
theorem dX1_firstPlace_12 : decode cX1_firstPlace 12 = .ok (.isub, 1) := by decide +kernel
theorem dX1_firstPlace_13 : decode cX1_firstPlace 13 = .ok (.iconst 1, 1) := by decide +kernel
theorem dX1_firstPlace_14 : decode cX1_firstPlace 14 = .ok (.iadd, 1) := by decide +kernel
theorem dX1_firstPlace_15 : decode cX1_firstPlace 15 = .ok (.ireturn, 1) := by decide +kernel
theorem dX1_lastPlace_0 : decode cX1_lastPlace 0 = .ok (.aload_n 0, 1) := by decide +kernel
theorem dX1_lastPlace_1 : decode cX1_lastPlace 1 = .ok (.iload_n 1, 1) := by decide +kernel
theorem dX1_lastPlace_2 : decode cX1_lastPlace 2 = .ok (.invokevirtual 76, 3) := by decide +kernel
theorem dX1_lastPlace_5 : decode cX1_lastPlace 5 = .ok (.istore_n 2, 1) := by decide +kernel
theorem dX1_lastPlace_6 : decode cX1_lastPlace 6 = .ok (.aload_n 0, 1) := by decide +kernel
theorem dX1_lastPlace_7 : decode cX1_lastPlace 7 = .ok (.getfield 45, 3) := by decide +kernel
theorem dX1_lastPlace_10 : decode cX1_lastPlace 10 = .ok (.aload_n 0, 1) := by decide +kernel
theorem dX1_lastPlace_11 : decode cX1_lastPlace 11 = .ok (.getfield 18, 3) := by decide +kernel
theorem dX1_lastPlace_14 : decode cX1_lastPlace 14 = .ok (.iload_n 1, 1) := by decide +kernel
theorem dX1_lastPlace_15 : decode cX1_lastPlace 15 = .ok (.iaload, 1) := by decide +kernel
theorem dX1_lastPlace_16 : decode cX1_lastPlace 16 = .ok (.isub, 1) := by decide +kernel
theorem dX1_lastPlace_17 : decode cX1_lastPlace 17 = .ok (.istore_n 3, 1) := by decide +kernel
theorem dX1_lastPlace_18 : decode cX1_lastPlace 18 = .ok (.iload_n 3, 1) := by decide +kernel
theorem dX1_lastPlace_19 : decode cX1_lastPlace 19 = .ok (.iload_n 2, 1) := by decide +kernel
theorem dX1_lastPlace_20 : decode cX1_lastPlace 20 = .ok (.if_icmp .le 30, 3) := by decide +kernel
theorem dX1_lastPlace_23 : decode cX1_lastPlace 23 = .ok (.aload_n 0, 1) := by decide +kernel
theorem dX1_lastPlace_24 : decode cX1_lastPlace 24 = .ok (.iload_n 3, 1) := by decide +kernel
theorem dX1_lastPlace_25 : decode cX1_lastPlace 25 = .ok (.aload_n 0, 1) := by decide +kernel
theorem dX1_lastPlace_26 : decode cX1_lastPlace 26 = .ok (.getfield 9, 3) := by decide +kernel
theorem dX1_lastPlace_29 : decode cX1_lastPlace 29 = .ok (.iload_n 2, 1) := by decide +kernel
theorem dX1_lastPlace_30 : decode cX1_lastPlace 30 = .ok (.aload_n 0, 1) := by decide +kernel
theorem dX1_lastPlace_31 : decode cX1_lastPlace 31 = .ok (.getfield 18, 3) := by decide +kernel
theorem dX1_lastPlace_34 : decode cX1_lastPlace 34 = .ok (.iload_n 1, 1) := by decide +kernel
theorem dX1_lastPlace_35 : decode cX1_lastPlace 35 = .ok (.iaload, 1) := by decide +kernel
theorem dX1_lastPlace_36 : decode cX1_lastPlace 36 = .ok (.invokevirtual 79, 3) := by decide +kernel
theorem dX1_lastPlace_39 : decode cX1_lastPlace 39 = .ok (.ifCond .eq 5, 3) := by decide +kernel
theorem dX1_lastPlace_42 : decode cX1_lastPlace 42 = .ok (.iload_n 3, 1) := by decide +kernel
theorem dX1_lastPlace_43 : decode cX1_lastPlace 43 = .ok (.ireturn, 1) := by decide +kernel
theorem dX1_lastPlace_44 : decode cX1_lastPlace 44 = .ok (.iinc 3 (-1), 3) := by decide +kernel
theorem dX1_lastPlace_47 : decode cX1_lastPlace 47 = .ok (.goto (-29), 3) := by decide +kernel
theorem dX1_lastPlace_50 : decode cX1_lastPlace 50 = .ok (.iload_n 2, 1) := by decide +kernel
theorem dX1_lastPlace_51 : decode cX1_lastPlace 51 = .ok (.ireturn, 1) := by decide +kernel
theorem dX1_standsAt_0 : decode cX1_standsAt 0 = .ok (.iconst 0, 1) := by decide +kernel
theorem dX1_standsAt_1 : decode cX1_standsAt 1 = .ok (.istore 5, 2) := by decide +kernel
theorem dX1_standsAt_3 : decode cX1_standsAt 3 = .ok (.iload 5, 2) := by decide +kernel
theorem dX1_standsAt_5 : decode cX1_standsAt 5 = .ok (.iload 4, 2) := by decide +kernel
theorem dX1_standsAt_7 : decode cX1_standsAt 7 = .ok (.if_icmp .ge 29, 3) := by decide +kernel
theorem dX1_standsAt_10 : decode cX1_standsAt 10 = .ok (.aload_n 0, 1) := by decide +kernel
theorem dX1_standsAt_11 : decode cX1_standsAt 11 = .ok (.getfield 9, 3) := by decide +kernel
theorem dX1_standsAt_14 : decode cX1_standsAt 14 = .ok (.iload_n 1, 1) := by decide +kernel
theorem dX1_standsAt_15 : decode cX1_standsAt 15 = .ok (.iload 5, 2) := by decide +kernel
theorem dX1_standsAt_17 : decode cX1_standsAt 17 = .ok (.iadd, 1) := by decide +kernel
theorem dX1_standsAt_18 : decode cX1_standsAt 18 = .ok (.iaload, 1) := by decide +kernel
theorem dX1_standsAt_19 : decode cX1_standsAt 19 = .ok (.aload_n 2, 1) := by decide +kernel
theorem dX1_standsAt_20 : decode cX1_standsAt 20 = .ok (.iload_n 3, 1) := by decide +kernel
theorem dX1_standsAt_21 : decode cX1_standsAt 21 = .ok (.iload 5, 2) := by decide +kernel
theorem dX1_standsAt_23 : decode cX1_standsAt 23 = .ok (.iadd, 1) := by decide +kernel
theorem dX1_standsAt_24 : decode cX1_standsAt 24 = .ok (.iaload, 1) := by decide +kernel
theorem dX1_standsAt_25 : decode cX1_standsAt 25 = .ok (.if_icmp .eq 5, 3) := by decide +kernel
theorem dX1_standsAt_28 : decode cX1_standsAt 28 = .ok (.iconst 0, 1) := by decide +kernel
theorem dX1_standsAt_29 : decode cX1_standsAt 29 = .ok (.ireturn, 1) := by decide +kernel
theorem dX1_standsAt_30 : decode cX1_standsAt 30 = .ok (.iinc 5 1, 3) := by decide +kernel
theorem dX1_standsAt_33 : decode cX1_standsAt 33 = .ok (.goto (-30), 3) := by decide +kernel
theorem dX1_standsAt_36 : decode cX1_standsAt 36 = .ok (.iconst 1, 1) := by decide +kernel
theorem dX1_standsAt_37 : decode cX1_standsAt 37 = .ok (.ireturn, 1) := by decide +kernel
theorem dX1_places_0 : decode cX1_places 0 = .ok (.iconst 0, 1) := by decide +kernel
theorem dX1_places_1 : decode cX1_places 1 = .ok (.istore 4, 2) := by decide +kernel
theorem dX1_places_3 : decode cX1_places 3 = .ok (.iconst 0, 1) := by decide +kernel
theorem dX1_places_4 : decode cX1_places 4 = .ok (.istore 5, 2) := by decide +kernel
theorem dX1_places_6 : decode cX1_places 6 = .ok (.iload 5, 2) := by decide +kernel
theorem dX1_places_8 : decode cX1_places 8 = .ok (.iload_n 3, 1) := by decide +kernel
theorem dX1_places_9 : decode cX1_places 9 = .ok (.iadd, 1) := by decide +kernel
theorem dX1_places_10 : decode cX1_places 10 = .ok (.aload_n 0, 1) := by decide +kernel
theorem dX1_places_11 : decode cX1_places 11 = .ok (.getfield 45, 3) := by decide +kernel
theorem dX1_places_14 : decode cX1_places 14 = .ok (.if_icmp .gt 24, 3) := by decide +kernel
theorem dX1_places_17 : decode cX1_places 17 = .ok (.aload_n 0, 1) := by decide +kernel
theorem dX1_places_18 : decode cX1_places 18 = .ok (.iload 5, 2) := by decide +kernel
theorem dX1_places_20 : decode cX1_places 20 = .ok (.aload_n 1, 1) := by decide +kernel
theorem dX1_places_21 : decode cX1_places 21 = .ok (.iload_n 2, 1) := by decide +kernel
theorem dX1_places_22 : decode cX1_places 22 = .ok (.iload_n 3, 1) := by decide +kernel
theorem dX1_places_23 : decode cX1_places 23 = .ok (.invokevirtual 79, 3) := by decide +kernel
theorem dX1_places_26 : decode cX1_places 26 = .ok (.ifCond .eq 6, 3) := by decide +kernel
theorem dX1_places_29 : decode cX1_places 29 = .ok (.iinc 4 1, 3) := by decide +kernel
theorem dX1_places_32 : decode cX1_places 32 = .ok (.iinc 5 1, 3) := by decide +kernel
theorem dX1_places_35 : decode cX1_places 35 = .ok (.goto (-29), 3) := by decide +kernel
theorem dX1_places_38 : decode cX1_places 38 = .ok (.iload 4, 2) := by decide +kernel
theorem dX1_places_40 : decode cX1_places 40 = .ok (.ireturn, 1) := by decide +kernel
theorem dX1_nodeOf_0 : decode cX1_nodeOf 0 = .ok (.iconst 0, 1) := by decide +kernel
theorem dX1_nodeOf_1 : decode cX1_nodeOf 1 = .ok (.istore 4, 2) := by decide +kernel
theorem dX1_nodeOf_3 : decode cX1_nodeOf 3 = .ok (.iload 4, 2) := by decide +kernel
theorem dX1_nodeOf_5 : decode cX1_nodeOf 5 = .ok (.aload_n 0, 1) := by decide +kernel
theorem dX1_nodeOf_6 : decode cX1_nodeOf 6 = .ok (.getfield 59, 3) := by decide +kernel
theorem dX1_nodeOf_9 : decode cX1_nodeOf 9 = .ok (.if_icmp .ge 39, 3) := by decide +kernel
theorem dX1_nodeOf_12 : decode cX1_nodeOf 12 = .ok (.aload_n 0, 1) := by decide +kernel
theorem dX1_nodeOf_13 : decode cX1_nodeOf 13 = .ok (.getfield 18, 3) := by decide +kernel
theorem dX1_nodeOf_16 : decode cX1_nodeOf 16 = .ok (.iload 4, 2) := by decide +kernel
theorem dX1_nodeOf_18 : decode cX1_nodeOf 18 = .ok (.iaload, 1) := by decide +kernel
theorem dX1_nodeOf_19 : decode cX1_nodeOf 19 = .ok (.iload_n 3, 1) := by decide +kernel
theorem dX1_nodeOf_20 : decode cX1_nodeOf 20 = .ok (.if_icmp .ne 22, 3) := by decide +kernel
theorem dX1_nodeOf_23 : decode cX1_nodeOf 23 = .ok (.aload_n 0, 1) := by decide +kernel
theorem dX1_nodeOf_24 : decode cX1_nodeOf 24 = .ok (.aload_n 0, 1) := by decide +kernel
theorem dX1_nodeOf_25 : decode cX1_nodeOf 25 = .ok (.iload 4, 2) := by decide +kernel
theorem dX1_nodeOf_27 : decode cX1_nodeOf 27 = .ok (.invokevirtual 76, 3) := by decide +kernel
theorem dX1_nodeOf_30 : decode cX1_nodeOf 30 = .ok (.aload_n 1, 1) := by decide +kernel
theorem dX1_nodeOf_31 : decode cX1_nodeOf 31 = .ok (.iload_n 2, 1) := by decide +kernel
theorem dX1_nodeOf_32 : decode cX1_nodeOf 32 = .ok (.iload_n 3, 1) := by decide +kernel
theorem dX1_nodeOf_33 : decode cX1_nodeOf 33 = .ok (.invokevirtual 79, 3) := by decide +kernel
theorem dX1_nodeOf_36 : decode cX1_nodeOf 36 = .ok (.ifCond .eq 6, 3) := by decide +kernel
theorem dX1_nodeOf_39 : decode cX1_nodeOf 39 = .ok (.iload 4, 2) := by decide +kernel
theorem dX1_nodeOf_41 : decode cX1_nodeOf 41 = .ok (.ireturn, 1) := by decide +kernel
theorem dX1_nodeOf_42 : decode cX1_nodeOf 42 = .ok (.iinc 4 1, 3) := by decide +kernel
theorem dX1_nodeOf_45 : decode cX1_nodeOf 45 = .ok (.goto (-42), 3) := by decide +kernel
theorem dX1_nodeOf_48 : decode cX1_nodeOf 48 = .ok (.iconst (-1), 1) := by decide +kernel
theorem dX1_nodeOf_49 : decode cX1_nodeOf 49 = .ok (.ireturn, 1) := by decide +kernel
theorem dX1_longestNode_0 : decode cX1_longestNode 0 = .ok (.iconst (-1), 1) := by decide +kernel
theorem dX1_longestNode_1 : decode cX1_longestNode 1 = .ok (.istore_n 1, 1) := by decide +kernel
theorem dX1_longestNode_2 : decode cX1_longestNode 2 = .ok (.iconst 0, 1) := by decide +kernel
theorem dX1_longestNode_3 : decode cX1_longestNode 3 = .ok (.istore_n 2, 1) := by decide +kernel
theorem dX1_longestNode_4 : decode cX1_longestNode 4 = .ok (.iload_n 2, 1) := by decide +kernel
theorem dX1_longestNode_5 : decode cX1_longestNode 5 = .ok (.aload_n 0, 1) := by decide +kernel
theorem dX1_longestNode_6 : decode cX1_longestNode 6 = .ok (.getfield 59, 3) := by decide +kernel
theorem dX1_longestNode_9 : decode cX1_longestNode 9 = .ok (.if_icmp .ge 31, 3) := by decide +kernel
theorem dX1_longestNode_12 : decode cX1_longestNode 12 = .ok (.iload_n 1, 1) := by decide +kernel
theorem dX1_longestNode_13 : decode cX1_longestNode 13 = .ok (.iconst (-1), 1) := by decide +kernel
theorem dX1_longestNode_14 : decode cX1_longestNode 14 = .ok (.if_icmp .eq 18, 3) := by decide +kernel
theorem dX1_longestNode_17 : decode cX1_longestNode 17 = .ok (.aload_n 0, 1) := by decide +kernel
theorem dX1_longestNode_18 : decode cX1_longestNode 18 = .ok (.getfield 18, 3) := by decide +kernel
theorem dX1_longestNode_21 : decode cX1_longestNode 21 = .ok (.iload_n 2, 1) := by decide +kernel
theorem dX1_longestNode_22 : decode cX1_longestNode 22 = .ok (.iaload, 1) := by decide +kernel
theorem dX1_longestNode_23 : decode cX1_longestNode 23 = .ok (.aload_n 0, 1) := by decide +kernel
theorem dX1_longestNode_24 : decode cX1_longestNode 24 = .ok (.getfield 18, 3) := by decide +kernel
theorem dX1_longestNode_27 : decode cX1_longestNode 27 = .ok (.iload_n 1, 1) := by decide +kernel
theorem dX1_longestNode_28 : decode cX1_longestNode 28 = .ok (.iaload, 1) := by decide +kernel
theorem dX1_longestNode_29 : decode cX1_longestNode 29 = .ok (.if_icmp .le 5, 3) := by decide +kernel
theorem dX1_longestNode_32 : decode cX1_longestNode 32 = .ok (.iload_n 2, 1) := by decide +kernel
theorem dX1_longestNode_33 : decode cX1_longestNode 33 = .ok (.istore_n 1, 1) := by decide +kernel
theorem dX1_longestNode_34 : decode cX1_longestNode 34 = .ok (.iinc 2 1, 3) := by decide +kernel
theorem dX1_longestNode_37 : decode cX1_longestNode 37 = .ok (.goto (-33), 3) := by decide +kernel
theorem dX1_longestNode_40 : decode cX1_longestNode 40 = .ok (.iload_n 1, 1) := by decide +kernel
theorem dX1_longestNode_41 : decode cX1_longestNode 41 = .ok (.ireturn, 1) := by decide +kernel
theorem dX1_evenNodes_0 : decode cX1_evenNodes 0 = .ok (.iconst 0, 1) := by decide +kernel
theorem dX1_evenNodes_1 : decode cX1_evenNodes 1 = .ok (.istore_n 1, 1) := by decide +kernel
theorem dX1_evenNodes_2 : decode cX1_evenNodes 2 = .ok (.iconst 0, 1) := by decide +kernel
theorem dX1_evenNodes_3 : decode cX1_evenNodes 3 = .ok (.istore_n 2, 1) := by decide +kernel
theorem dX1_evenNodes_4 : decode cX1_evenNodes 4 = .ok (.iload_n 2, 1) := by decide +kernel
theorem dX1_evenNodes_5 : decode cX1_evenNodes 5 = .ok (.aload_n 0, 1) := by decide +kernel
theorem dX1_evenNodes_6 : decode cX1_evenNodes 6 = .ok (.getfield 59, 3) := by decide +kernel
theorem dX1_evenNodes_9 : decode cX1_evenNodes 9 = .ok (.if_icmp .ge 23, 3) := by decide +kernel
theorem dX1_evenNodes_12 : decode cX1_evenNodes 12 = .ok (.aload_n 0, 1) := by decide +kernel
theorem dX1_evenNodes_13 : decode cX1_evenNodes 13 = .ok (.getfield 18, 3) := by decide +kernel
theorem dX1_evenNodes_16 : decode cX1_evenNodes 16 = .ok (.iload_n 2, 1) := by decide +kernel
theorem dX1_evenNodes_17 : decode cX1_evenNodes 17 = .ok (.iaload, 1) := by decide +kernel
theorem dX1_evenNodes_18 : decode cX1_evenNodes 18 = .ok (.iconst 2, 1) := by decide +kernel
theorem dX1_evenNodes_19 : decode cX1_evenNodes 19 = .ok (.irem, 1) := by decide +kernel
theorem dX1_evenNodes_20 : decode cX1_evenNodes 20 = .ok (.ifCond .ne 6, 3) := by decide +kernel
theorem dX1_evenNodes_23 : decode cX1_evenNodes 23 = .ok (.iinc 1 1, 3) := by decide +kernel
theorem dX1_evenNodes_26 : decode cX1_evenNodes 26 = .ok (.iinc 2 1, 3) := by decide +kernel
theorem dX1_evenNodes_29 : decode cX1_evenNodes 29 = .ok (.goto (-25), 3) := by decide +kernel
theorem dX1_evenNodes_32 : decode cX1_evenNodes 32 = .ok (.iload_n 1, 1) := by decide +kernel
theorem dX1_evenNodes_33 : decode cX1_evenNodes 33 = .ok (.ireturn, 1) := by decide +kernel
theorem dX1_allPlaces_0 : decode cX1_allPlaces 0 = .ok (.iconst 0, 1) := by decide +kernel
theorem dX1_allPlaces_1 : decode cX1_allPlaces 1 = .ok (.istore_n 1, 1) := by decide +kernel
theorem dX1_allPlaces_2 : decode cX1_allPlaces 2 = .ok (.iconst 0, 1) := by decide +kernel
theorem dX1_allPlaces_3 : decode cX1_allPlaces 3 = .ok (.istore_n 2, 1) := by decide +kernel
theorem dX1_allPlaces_4 : decode cX1_allPlaces 4 = .ok (.iload_n 2, 1) := by decide +kernel
theorem dX1_allPlaces_5 : decode cX1_allPlaces 5 = .ok (.aload_n 0, 1) := by decide +kernel
theorem dX1_allPlaces_6 : decode cX1_allPlaces 6 = .ok (.getfield 45, 3) := by decide +kernel
theorem dX1_allPlaces_9 : decode cX1_allPlaces 9 = .ok (.if_icmp .ge 23, 3) := by decide +kernel
theorem dX1_allPlaces_12 : decode cX1_allPlaces 12 = .ok (.iload_n 1, 1) := by decide +kernel
theorem dX1_allPlaces_13 : decode cX1_allPlaces 13 = .ok (.aload_n 0, 1) := by decide +kernel
theorem dX1_allPlaces_14 : decode cX1_allPlaces 14 = .ok (.getfield 33, 3) := by decide +kernel
theorem dX1_allPlaces_17 : decode cX1_allPlaces 17 = .ok (.aload_n 0, 1) := by decide +kernel
theorem dX1_allPlaces_18 : decode cX1_allPlaces 18 = .ok (.getfield 15, 3) := by decide +kernel
theorem dX1_allPlaces_21 : decode cX1_allPlaces 21 = .ok (.iload_n 2, 1) := by decide +kernel
theorem dX1_allPlaces_22 : decode cX1_allPlaces 22 = .ok (.iaload, 1) := by decide +kernel
theorem dX1_allPlaces_23 : decode cX1_allPlaces 23 = .ok (.iaload, 1) := by decide +kernel
theorem dX1_allPlaces_24 : decode cX1_allPlaces 24 = .ok (.iadd, 1) := by decide +kernel
theorem dX1_allPlaces_25 : decode cX1_allPlaces 25 = .ok (.istore_n 1, 1) := by decide +kernel
theorem dX1_allPlaces_26 : decode cX1_allPlaces 26 = .ok (.iinc 2 1, 3) := by decide +kernel
theorem dX1_allPlaces_29 : decode cX1_allPlaces 29 = .ok (.goto (-25), 3) := by decide +kernel
theorem dX1_allPlaces_32 : decode cX1_allPlaces 32 = .ok (.iload_n 1, 1) := by decide +kernel
theorem dX1_allPlaces_33 : decode cX1_allPlaces 33 = .ok (.ireturn, 1) := by decide +kernel
theorem dX1_unlikePairs_0 : decode cX1_unlikePairs 0 = .ok (.iconst 0, 1) := by decide +kernel
theorem dX1_unlikePairs_1 : decode cX1_unlikePairs 1 = .ok (.istore_n 1, 1) := by decide +kernel
theorem dX1_unlikePairs_2 : decode cX1_unlikePairs 2 = .ok (.iconst 0, 1) := by decide +kernel
theorem dX1_unlikePairs_3 : decode cX1_unlikePairs 3 = .ok (.istore_n 2, 1) := by decide +kernel
theorem dX1_unlikePairs_4 : decode cX1_unlikePairs 4 = .ok (.iload_n 2, 1) := by decide +kernel
theorem dX1_unlikePairs_5 : decode cX1_unlikePairs 5 = .ok (.aload_n 0, 1) := by decide +kernel
theorem dX1_unlikePairs_6 : decode cX1_unlikePairs 6 = .ok (.getfield 45, 3) := by decide +kernel
theorem dX1_unlikePairs_9 : decode cX1_unlikePairs 9 = .ok (.iconst 2, 1) := by decide +kernel
theorem dX1_unlikePairs_10 : decode cX1_unlikePairs 10 = .ok (.idiv, 1) := by decide +kernel
theorem dX1_unlikePairs_11 : decode cX1_unlikePairs 11 = .ok (.if_icmp .ge 34, 3) := by decide +kernel
theorem dX1_unlikePairs_14 : decode cX1_unlikePairs 14 = .ok (.aload_n 0, 1) := by decide +kernel
theorem dX1_unlikePairs_15 : decode cX1_unlikePairs 15 = .ok (.getfield 9, 3) := by decide +kernel
theorem dX1_unlikePairs_18 : decode cX1_unlikePairs 18 = .ok (.iload_n 2, 1) := by decide +kernel
theorem dX1_unlikePairs_19 : decode cX1_unlikePairs 19 = .ok (.iaload, 1) := by decide +kernel
theorem dX1_unlikePairs_20 : decode cX1_unlikePairs 20 = .ok (.aload_n 0, 1) := by decide +kernel
theorem dX1_unlikePairs_21 : decode cX1_unlikePairs 21 = .ok (.getfield 9, 3) := by decide +kernel
theorem dX1_unlikePairs_24 : decode cX1_unlikePairs 24 = .ok (.aload_n 0, 1) := by decide +kernel
theorem dX1_unlikePairs_25 : decode cX1_unlikePairs 25 = .ok (.getfield 45, 3) := by decide +kernel
theorem dX1_unlikePairs_28 : decode cX1_unlikePairs 28 = .ok (.iconst 1, 1) := by decide +kernel
theorem dX1_unlikePairs_29 : decode cX1_unlikePairs 29 = .ok (.isub, 1) := by decide +kernel
theorem dX1_unlikePairs_30 : decode cX1_unlikePairs 30 = .ok (.iload_n 2, 1) := by decide +kernel
theorem dX1_unlikePairs_31 : decode cX1_unlikePairs 31 = .ok (.isub, 1) := by decide +kernel
theorem dX1_unlikePairs_32 : decode cX1_unlikePairs 32 = .ok (.iaload, 1) := by decide +kernel
theorem dX1_unlikePairs_33 : decode cX1_unlikePairs 33 = .ok (.if_icmp .eq 6, 3) := by decide +kernel
theorem dX1_unlikePairs_36 : decode cX1_unlikePairs 36 = .ok (.iinc 1 1, 3) := by decide +kernel
theorem dX1_unlikePairs_39 : decode cX1_unlikePairs 39 = .ok (.iinc 2 1, 3) := by decide +kernel
theorem dX1_unlikePairs_42 : decode cX1_unlikePairs 42 = .ok (.goto (-38), 3) := by decide +kernel
theorem dX1_unlikePairs_45 : decode cX1_unlikePairs 45 = .ok (.iload_n 1, 1) := by decide +kernel
theorem dX1_unlikePairs_46 : decode cX1_unlikePairs 46 = .ok (.ireturn, 1) := by decide +kernel
theorem dX1_isMirrorTurned_0 : decode cX1_isMirrorTurned 0 = .ok (.iconst 0, 1) := by decide +kernel
theorem dX1_isMirrorTurned_1 : decode cX1_isMirrorTurned 1 = .ok (.istore_n 2, 1) := by decide +kernel
theorem dX1_isMirrorTurned_2 : decode cX1_isMirrorTurned 2 = .ok (.iload_n 2, 1) := by decide +kernel
theorem dX1_isMirrorTurned_3 : decode cX1_isMirrorTurned 3 = .ok (.aload_n 0, 1) := by decide +kernel
theorem dX1_isMirrorTurned_4 : decode cX1_isMirrorTurned 4 = .ok (.getfield 45, 3) := by decide +kernel
theorem dX1_isMirrorTurned_7 : decode cX1_isMirrorTurned 7 = .ok (.iconst 2, 1) := by decide +kernel
theorem dX1_isMirrorTurned_8 : decode cX1_isMirrorTurned 8 = .ok (.idiv, 1) := by decide +kernel
theorem dX1_isMirrorTurned_9 : decode cX1_isMirrorTurned 9 = .ok (.if_icmp .ge 45, 3) := by decide +kernel
theorem dX1_isMirrorTurned_12 : decode cX1_isMirrorTurned 12 = .ok (.aload_n 0, 1) := by decide +kernel
theorem dX1_isMirrorTurned_13 : decode cX1_isMirrorTurned 13 = .ok (.getfield 9, 3) := by decide +kernel
theorem dX1_isMirrorTurned_16 : decode cX1_isMirrorTurned 16 = .ok (.aload_n 0, 1) := by decide +kernel
theorem dX1_isMirrorTurned_17 : decode cX1_isMirrorTurned 17 = .ok (.iload_n 1, 1) := by decide +kernel
theorem dX1_isMirrorTurned_18 : decode cX1_isMirrorTurned 18 = .ok (.iload_n 2, 1) := by decide +kernel
theorem dX1_isMirrorTurned_19 : decode cX1_isMirrorTurned 19 = .ok (.iadd, 1) := by decide +kernel
theorem dX1_isMirrorTurned_20 : decode cX1_isMirrorTurned 20 = .ok (.invokevirtual 83, 3) := by decide +kernel
theorem dX1_isMirrorTurned_23 : decode cX1_isMirrorTurned 23 = .ok (.iaload, 1) := by decide +kernel
theorem dX1_isMirrorTurned_24 : decode cX1_isMirrorTurned 24 = .ok (.aload_n 0, 1) := by decide +kernel
theorem dX1_isMirrorTurned_25 : decode cX1_isMirrorTurned 25 = .ok (.getfield 9, 3) := by decide +kernel
theorem dX1_isMirrorTurned_28 : decode cX1_isMirrorTurned 28 = .ok (.aload_n 0, 1) := by decide +kernel
theorem dX1_isMirrorTurned_29 : decode cX1_isMirrorTurned 29 = .ok (.iload_n 1, 1) := by decide +kernel
theorem dX1_isMirrorTurned_30 : decode cX1_isMirrorTurned 30 = .ok (.aload_n 0, 1) := by decide +kernel
theorem dX1_isMirrorTurned_31 : decode cX1_isMirrorTurned 31 = .ok (.getfield 45, 3) := by decide +kernel
theorem dX1_isMirrorTurned_34 : decode cX1_isMirrorTurned 34 = .ok (.iadd, 1) := by decide +kernel
theorem dX1_isMirrorTurned_35 : decode cX1_isMirrorTurned 35 = .ok (.iconst 1, 1) := by decide +kernel
theorem dX1_isMirrorTurned_36 : decode cX1_isMirrorTurned 36 = .ok (.isub, 1) := by decide +kernel
theorem dX1_isMirrorTurned_37 : decode cX1_isMirrorTurned 37 = .ok (.iload_n 2, 1) := by decide +kernel
theorem dX1_isMirrorTurned_38 : decode cX1_isMirrorTurned 38 = .ok (.isub, 1) := by decide +kernel
theorem dX1_isMirrorTurned_39 : decode cX1_isMirrorTurned 39 = .ok (.invokevirtual 83, 3) := by decide +kernel
theorem dX1_isMirrorTurned_42 : decode cX1_isMirrorTurned 42 = .ok (.iaload, 1) := by decide +kernel
theorem dX1_isMirrorTurned_43 : decode cX1_isMirrorTurned 43 = .ok (.if_icmp .eq 5, 3) := by decide +kernel
theorem dX1_isMirrorTurned_46 : decode cX1_isMirrorTurned 46 = .ok (.iconst 0, 1) := by decide +kernel
theorem dX1_isMirrorTurned_47 : decode cX1_isMirrorTurned 47 = .ok (.ireturn, 1) := by decide +kernel
theorem dX1_isMirrorTurned_48 : decode cX1_isMirrorTurned 48 = .ok (.iinc 2 1, 3) := by decide +kernel
theorem dX1_isMirrorTurned_51 : decode cX1_isMirrorTurned 51 = .ok (.goto (-49), 3) := by decide +kernel
theorem dX1_isMirrorTurned_54 : decode cX1_isMirrorTurned 54 = .ok (.iconst 1, 1) := by decide +kernel
theorem dX1_isMirrorTurned_55 : decode cX1_isMirrorTurned 55 = .ok (.ireturn, 1) := by decide +kernel
theorem dX1_around_0 : decode cX1_around 0 = .ok (.iload_n 1, 1) := by decide +kernel
theorem dX1_around_1 : decode cX1_around 1 = .ok (.aload_n 0, 1) := by decide +kernel
theorem dX1_around_2 : decode cX1_around 2 = .ok (.getfield 45, 3) := by decide +kernel
theorem dX1_around_5 : decode cX1_around 5 = .ok (.if_icmp .ge 7, 3) := by decide +kernel
theorem dX1_around_8 : decode cX1_around 8 = .ok (.iload_n 1, 1) := by decide +kernel
theorem dX1_around_9 : decode cX1_around 9 = .ok (.goto 9, 3) := by decide +kernel
theorem dX1_around_12 : decode cX1_around 12 = .ok (.iload_n 1, 1) := by decide +kernel
theorem dX1_around_13 : decode cX1_around 13 = .ok (.aload_n 0, 1) := by decide +kernel
theorem dX1_around_14 : decode cX1_around 14 = .ok (.getfield 45, 3) := by decide +kernel
theorem dX1_around_17 : decode cX1_around 17 = .ok (.isub, 1) := by decide +kernel
theorem dX1_around_18 : decode cX1_around 18 = .ok (.ireturn, 1) := by decide +kernel
theorem dX2_init_0 : decode cX2_init 0 = .ok (.aload_n 0, 1) := by decide +kernel
theorem dX2_init_1 : decode cX2_init 1 = .ok (.invokespecial 3, 3) := by decide +kernel
theorem dX2_init_4 : decode cX2_init 4 = .ok (.aload_n 0, 1) := by decide +kernel
theorem dX2_init_5 : decode cX2_init 5 = .ok (.bipush 49, 2) := by decide +kernel
theorem dX2_init_7 : decode cX2_init 7 = .ok (.newarray .int, 2) := by decide +kernel
theorem dX2_init_9 : decode cX2_init 9 = .ok (.putfield 9, 3) := by decide +kernel
theorem dX2_init_12 : decode cX2_init 12 = .ok (.aload_n 0, 1) := by decide +kernel
theorem dX2_init_13 : decode cX2_init 13 = .ok (.bipush 49, 2) := by decide +kernel
theorem dX2_init_15 : decode cX2_init 15 = .ok (.newarray .int, 2) := by decide +kernel
theorem dX2_init_17 : decode cX2_init 17 = .ok (.putfield 15, 3) := by decide +kernel
theorem dX2_init_20 : decode cX2_init 20 = .ok (.return_, 1) := by decide +kernel
theorem dX2_cut_0 : decode cX2_cut 0 = .ok (.aload_n 0, 1) := by decide +kernel
theorem dX2_cut_1 : decode cX2_cut 1 = .ok (.getfield 9, 3) := by decide +kernel
theorem dX2_cut_4 : decode cX2_cut 4 = .ok (.sipush 1000, 3) := by decide +kernel
theorem dX2_cut_7 : decode cX2_cut 7 = .ok (.invokestatic 18, 3) := by decide +kernel
theorem dX2_cut_10 : decode cX2_cut 10 = .ok (.aload_n 0, 1) := by decide +kernel
theorem dX2_cut_11 : decode cX2_cut 11 = .ok (.getfield 9, 3) := by decide +kernel
theorem dX2_cut_14 : decode cX2_cut 14 = .ok (.iload_n 2, 1) := by decide +kernel
theorem dX2_cut_15 : decode cX2_cut 15 = .ok (.iconst 0, 1) := by decide +kernel
theorem dX2_cut_16 : decode cX2_cut 16 = .ok (.iastore, 1) := by decide +kernel
theorem dX2_cut_17 : decode cX2_cut 17 = .ok (.iload_n 2, 1) := by decide +kernel
theorem dX2_cut_18 : decode cX2_cut 18 = .ok (.istore 4, 2) := by decide +kernel
theorem dX2_cut_20 : decode cX2_cut 20 = .ok (.iload 4, 2) := by decide +kernel
theorem dX2_cut_22 : decode cX2_cut 22 = .ok (.ifCond .le 30, 3) := by decide +kernel
theorem dX2_cut_25 : decode cX2_cut 25 = .ok (.aload_n 0, 1) := by decide +kernel
theorem dX2_cut_26 : decode cX2_cut 26 = .ok (.getfield 9, 3) := by decide +kernel
theorem dX2_cut_29 : decode cX2_cut 29 = .ok (.iload 4, 2) := by decide +kernel
theorem dX2_cut_31 : decode cX2_cut 31 = .ok (.iaload, 1) := by decide +kernel
theorem dX2_cut_32 : decode cX2_cut 32 = .ok (.sipush 1000, 3) := by decide +kernel
theorem dX2_cut_35 : decode cX2_cut 35 = .ok (.if_icmp .ge 11, 3) := by decide +kernel
theorem dX2_cut_38 : decode cX2_cut 38 = .ok (.aload_n 0, 1) := by decide +kernel
theorem dX2_cut_39 : decode cX2_cut 39 = .ok (.iload 4, 2) := by decide +kernel
theorem dX2_cut_41 : decode cX2_cut 41 = .ok (.aload_n 1, 1) := by decide +kernel
theorem dX2_cut_42 : decode cX2_cut 42 = .ok (.iload_n 3, 1) := by decide +kernel
theorem dX2_cut_43 : decode cX2_cut 43 = .ok (.invokevirtual 24, 3) := by decide +kernel
theorem dX2_cut_46 : decode cX2_cut 46 = .ok (.iinc 4 (-1), 3) := by decide +kernel
theorem dX2_cut_49 : decode cX2_cut 49 = .ok (.goto (-29), 3) := by decide +kernel
theorem dX2_cut_52 : decode cX2_cut 52 = .ok (.return_, 1) := by decide +kernel
theorem dX2_reachFrom_0 : decode cX2_reachFrom 0 = .ok (.aload_n 0, 1) := by decide +kernel
theorem dX2_reachFrom_1 : decode cX2_reachFrom 1 = .ok (.getfield 9, 3) := by decide +kernel
theorem dX2_reachFrom_4 : decode cX2_reachFrom 4 = .ok (.iload_n 1, 1) := by decide +kernel
theorem dX2_reachFrom_5 : decode cX2_reachFrom 5 = .ok (.iaload, 1) := by decide +kernel
theorem dX2_reachFrom_6 : decode cX2_reachFrom 6 = .ok (.iconst 1, 1) := by decide +kernel
theorem dX2_reachFrom_7 : decode cX2_reachFrom 7 = .ok (.iadd, 1) := by decide +kernel
theorem dX2_reachFrom_8 : decode cX2_reachFrom 8 = .ok (.istore 4, 2) := by decide +kernel
theorem dX2_reachFrom_10 : decode cX2_reachFrom 10 = .ok (.aload_n 2, 1) := by decide +kernel
theorem dX2_reachFrom_11 : decode cX2_reachFrom 11 = .ok (.getfield 28, 3) := by decide +kernel
theorem dX2_reachFrom_14 : decode cX2_reachFrom 14 = .ok (.iload_n 1, 1) := by decide +kernel
theorem dX2_reachFrom_15 : decode cX2_reachFrom 15 = .ok (.iconst 1, 1) := by decide +kernel
theorem dX2_reachFrom_16 : decode cX2_reachFrom 16 = .ok (.isub, 1) := by decide +kernel
theorem dX2_reachFrom_17 : decode cX2_reachFrom 17 = .ok (.iaload, 1) := by decide +kernel
theorem dX2_reachFrom_18 : decode cX2_reachFrom 18 = .ok (.istore 5, 2) := by decide +kernel
theorem dX2_reachFrom_20 : decode cX2_reachFrom 20 = .ok (.aload_n 2, 1) := by decide +kernel
theorem dX2_reachFrom_21 : decode cX2_reachFrom 21 = .ok (.getfield 33, 3) := by decide +kernel
theorem dX2_reachFrom_24 : decode cX2_reachFrom 24 = .ok (.iload 5, 2) := by decide +kernel
theorem dX2_reachFrom_26 : decode cX2_reachFrom 26 = .ok (.iaload, 1) := by decide +kernel
theorem dX2_reachFrom_27 : decode cX2_reachFrom 27 = .ok (.istore 6, 2) := by decide +kernel
theorem dX2_reachFrom_29 : decode cX2_reachFrom 29 = .ok (.iload 6, 2) := by decide +kernel
theorem dX2_reachFrom_31 : decode cX2_reachFrom 31 = .ok (.ifCond .le 86, 3) := by decide +kernel
theorem dX2_reachFrom_34 : decode cX2_reachFrom 34 = .ok (.aload_n 2, 1) := by decide +kernel
theorem dX2_reachFrom_35 : decode cX2_reachFrom 35 = .ok (.getfield 36, 3) := by decide +kernel
theorem dX2_reachFrom_38 : decode cX2_reachFrom 38 = .ok (.iload 5, 2) := by decide +kernel
theorem dX2_reachFrom_40 : decode cX2_reachFrom 40 = .ok (.iaload, 1) := by decide +kernel
theorem dX2_reachFrom_41 : decode cX2_reachFrom 41 = .ok (.istore 7, 2) := by decide +kernel
theorem dX2_reachFrom_43 : decode cX2_reachFrom 43 = .ok (.iload_n 1, 1) := by decide +kernel
theorem dX2_reachFrom_44 : decode cX2_reachFrom 44 = .ok (.iload 7, 2) := by decide +kernel
theorem dX2_reachFrom_46 : decode cX2_reachFrom 46 = .ok (.isub, 1) := by decide +kernel
theorem dX2_reachFrom_47 : decode cX2_reachFrom 47 = .ok (.istore 8, 2) := by decide +kernel
theorem dX2_reachFrom_49 : decode cX2_reachFrom 49 = .ok (.iload_n 3, 1) := by decide +kernel
theorem dX2_reachFrom_50 : decode cX2_reachFrom 50 = .ok (.ifCond .eq 10, 3) := by decide +kernel
theorem dX2_reachFrom_53 : decode cX2_reachFrom 53 = .ok (.iload 7, 2) := by decide +kernel
theorem dX2_reachFrom_55 : decode cX2_reachFrom 55 = .ok (.iconst 2, 1) := by decide +kernel
theorem dX2_reachFrom_56 : decode cX2_reachFrom 56 = .ok (.irem, 1) := by decide +kernel
theorem dX2_reachFrom_57 : decode cX2_reachFrom 57 = .ok (.ifCond .ne 7, 3) := by decide +kernel
theorem dX2_reachFrom_60 : decode cX2_reachFrom 60 = .ok (.iconst 1, 1) := by decide +kernel
theorem dX2_reachFrom_61 : decode cX2_reachFrom 61 = .ok (.goto 4, 3) := by decide +kernel
theorem dX2_reachFrom_64 : decode cX2_reachFrom 64 = .ok (.iconst 0, 1) := by decide +kernel
theorem dX2_reachFrom_65 : decode cX2_reachFrom 65 = .ok (.istore 9, 2) := by decide +kernel
theorem dX2_reachFrom_67 : decode cX2_reachFrom 67 = .ok (.iload 9, 2) := by decide +kernel
theorem dX2_reachFrom_69 : decode cX2_reachFrom 69 = .ok (.ifCond .eq 33, 3) := by decide +kernel
theorem dX2_reachFrom_72 : decode cX2_reachFrom 72 = .ok (.iload 4, 2) := by decide +kernel
theorem dX2_reachFrom_74 : decode cX2_reachFrom 74 = .ok (.aload_n 0, 1) := by decide +kernel
theorem dX2_reachFrom_75 : decode cX2_reachFrom 75 = .ok (.getfield 9, 3) := by decide +kernel
theorem dX2_reachFrom_78 : decode cX2_reachFrom 78 = .ok (.iload 8, 2) := by decide +kernel
theorem dX2_reachFrom_80 : decode cX2_reachFrom 80 = .ok (.iaload, 1) := by decide +kernel
theorem dX2_reachFrom_81 : decode cX2_reachFrom 81 = .ok (.if_icmp .gt 21, 3) := by decide +kernel
theorem dX2_reachFrom_84 : decode cX2_reachFrom 84 = .ok (.aload_n 0, 1) := by decide +kernel
theorem dX2_reachFrom_85 : decode cX2_reachFrom 85 = .ok (.getfield 9, 3) := by decide +kernel
theorem dX2_reachFrom_88 : decode cX2_reachFrom 88 = .ok (.iload 8, 2) := by decide +kernel
theorem dX2_reachFrom_90 : decode cX2_reachFrom 90 = .ok (.iload 4, 2) := by decide +kernel
theorem dX2_reachFrom_92 : decode cX2_reachFrom 92 = .ok (.iastore, 1) := by decide +kernel
theorem dX2_reachFrom_93 : decode cX2_reachFrom 93 = .ok (.aload_n 0, 1) := by decide +kernel
theorem dX2_reachFrom_94 : decode cX2_reachFrom 94 = .ok (.getfield 15, 3) := by decide +kernel
theorem dX2_reachFrom_97 : decode cX2_reachFrom 97 = .ok (.iload 8, 2) := by decide +kernel
theorem dX2_reachFrom_99 : decode cX2_reachFrom 99 = .ok (.iload 7, 2) := by decide +kernel
theorem dX2_reachFrom_101 : decode cX2_reachFrom 101 = .ok (.iastore, 1) := by decide +kernel
theorem dX2_reachFrom_102 : decode cX2_reachFrom 102 = .ok (.aload_n 2, 1) := by decide +kernel
theorem dX2_reachFrom_103 : decode cX2_reachFrom 103 = .ok (.getfield 39, 3) := by decide +kernel
theorem dX2_reachFrom_106 : decode cX2_reachFrom 106 = .ok (.iload 5, 2) := by decide +kernel
theorem dX2_reachFrom_108 : decode cX2_reachFrom 108 = .ok (.iaload, 1) := by decide +kernel
theorem dX2_reachFrom_109 : decode cX2_reachFrom 109 = .ok (.istore 5, 2) := by decide +kernel
theorem dX2_reachFrom_111 : decode cX2_reachFrom 111 = .ok (.iinc 6 (-1), 3) := by decide +kernel
theorem dX2_reachFrom_114 : decode cX2_reachFrom 114 = .ok (.goto (-85), 3) := by decide +kernel
theorem dX2_reachFrom_117 : decode cX2_reachFrom 117 = .ok (.return_, 1) := by decide +kernel
theorem dX2_pieces_0 : decode cX2_pieces 0 = .ok (.aload_n 0, 1) := by decide +kernel
theorem dX2_pieces_1 : decode cX2_pieces 1 = .ok (.getfield 9, 3) := by decide +kernel
theorem dX2_pieces_4 : decode cX2_pieces 4 = .ok (.iconst 0, 1) := by decide +kernel
theorem dX2_pieces_5 : decode cX2_pieces 5 = .ok (.iaload, 1) := by decide +kernel
theorem dX2_pieces_6 : decode cX2_pieces 6 = .ok (.ireturn, 1) := by decide +kernel
theorem dX2_pieceLength_0 : decode cX2_pieceLength 0 = .ok (.iconst 0, 1) := by decide +kernel
theorem dX2_pieceLength_1 : decode cX2_pieceLength 1 = .ok (.istore_n 2, 1) := by decide +kernel
theorem dX2_pieceLength_2 : decode cX2_pieceLength 2 = .ok (.iconst 0, 1) := by decide +kernel
theorem dX2_pieceLength_3 : decode cX2_pieceLength 3 = .ok (.istore_n 3, 1) := by decide +kernel
theorem dX2_pieceLength_4 : decode cX2_pieceLength 4 = .ok (.iload_n 3, 1) := by decide +kernel
theorem dX2_pieceLength_5 : decode cX2_pieceLength 5 = .ok (.iload_n 1, 1) := by decide +kernel
theorem dX2_pieceLength_6 : decode cX2_pieceLength 6 = .ok (.if_icmp .ge 18, 3) := by decide +kernel
theorem dX2_pieceLength_9 : decode cX2_pieceLength 9 = .ok (.iload_n 2, 1) := by decide +kernel
theorem dX2_pieceLength_10 : decode cX2_pieceLength 10 = .ok (.aload_n 0, 1) := by decide +kernel
theorem dX2_pieceLength_11 : decode cX2_pieceLength 11 = .ok (.getfield 15, 3) := by decide +kernel
theorem dX2_pieceLength_14 : decode cX2_pieceLength 14 = .ok (.iload_n 2, 1) := by decide +kernel
theorem dX2_pieceLength_15 : decode cX2_pieceLength 15 = .ok (.iaload, 1) := by decide +kernel
theorem dX2_pieceLength_16 : decode cX2_pieceLength 16 = .ok (.iadd, 1) := by decide +kernel
theorem dX2_pieceLength_17 : decode cX2_pieceLength 17 = .ok (.istore_n 2, 1) := by decide +kernel
theorem dX2_pieceLength_18 : decode cX2_pieceLength 18 = .ok (.iinc 3 1, 3) := by decide +kernel
theorem dX2_pieceLength_21 : decode cX2_pieceLength 21 = .ok (.goto (-17), 3) := by decide +kernel
theorem dX2_pieceLength_24 : decode cX2_pieceLength 24 = .ok (.aload_n 0, 1) := by decide +kernel
theorem dX2_pieceLength_25 : decode cX2_pieceLength 25 = .ok (.getfield 15, 3) := by decide +kernel
theorem dX2_pieceLength_28 : decode cX2_pieceLength 28 = .ok (.iload_n 2, 1) := by decide +kernel
theorem dX2_pieceLength_29 : decode cX2_pieceLength 29 = .ok (.iaload, 1) := by decide +kernel
theorem dX2_pieceLength_30 : decode cX2_pieceLength 30 = .ok (.ireturn, 1) := by decide +kernel
theorem dX3_init_0 : decode cX3_init 0 = .ok (.aload_n 0, 1) := by decide +kernel
theorem dX3_init_1 : decode cX3_init 1 = .ok (.invokespecial 3, 3) := by decide +kernel
theorem dX3_init_4 : decode cX3_init 4 = .ok (.aload_n 0, 1) := by decide +kernel
theorem dX3_init_5 : decode cX3_init 5 = .ok (.bipush 48, 2) := by decide +kernel
theorem dX3_init_7 : decode cX3_init 7 = .ok (.newarray .int, 2) := by decide +kernel
theorem dX3_init_9 : decode cX3_init 9 = .ok (.putfield 9, 3) := by decide +kernel
theorem dX3_init_12 : decode cX3_init 12 = .ok (.aload_n 0, 1) := by decide +kernel
theorem dX3_init_13 : decode cX3_init 13 = .ok (.iload_n 1, 1) := by decide +kernel
theorem dX3_init_14 : decode cX3_init 14 = .ok (.putfield 15, 3) := by decide +kernel
theorem dX3_init_17 : decode cX3_init 17 = .ok (.return_, 1) := by decide +kernel
theorem dX3_hold_0 : decode cX3_hold 0 = .ok (.aload_n 1, 1) := by decide +kernel
theorem dX3_hold_1 : decode cX3_hold 1 = .ok (.iconst 0, 1) := by decide +kernel
theorem dX3_hold_2 : decode cX3_hold 2 = .ok (.aload_n 0, 1) := by decide +kernel
theorem dX3_hold_3 : decode cX3_hold 3 = .ok (.getfield 9, 3) := by decide +kernel
theorem dX3_hold_6 : decode cX3_hold 6 = .ok (.iconst 0, 1) := by decide +kernel
theorem dX3_hold_7 : decode cX3_hold 7 = .ok (.iload_n 2, 1) := by decide +kernel
theorem dX3_hold_8 : decode cX3_hold 8 = .ok (.invokestatic 19, 3) := by decide +kernel
theorem dX3_hold_11 : decode cX3_hold 11 = .ok (.aload_n 0, 1) := by decide +kernel
theorem dX3_hold_12 : decode cX3_hold 12 = .ok (.iload_n 2, 1) := by decide +kernel
theorem dX3_hold_13 : decode cX3_hold 13 = .ok (.putfield 15, 3) := by decide +kernel
theorem dX3_hold_16 : decode cX3_hold 16 = .ok (.return_, 1) := by decide +kernel
theorem dX3_append_0 : decode cX3_append 0 = .ok (.aload_n 0, 1) := by decide +kernel
theorem dX3_append_1 : decode cX3_append 1 = .ok (.getfield 9, 3) := by decide +kernel
theorem dX3_append_4 : decode cX3_append 4 = .ok (.aload_n 0, 1) := by decide +kernel
theorem dX3_append_5 : decode cX3_append 5 = .ok (.getfield 15, 3) := by decide +kernel
theorem dX3_append_8 : decode cX3_append 8 = .ok (.iload_n 1, 1) := by decide +kernel
theorem dX3_append_9 : decode cX3_append 9 = .ok (.iastore, 1) := by decide +kernel
theorem dX3_append_10 : decode cX3_append 10 = .ok (.aload_n 0, 1) := by decide +kernel
theorem dX3_append_11 : decode cX3_append 11 = .ok (.dup, 1) := by decide +kernel
theorem dX3_append_12 : decode cX3_append 12 = .ok (.getfield 15, 3) := by decide +kernel
theorem dX3_append_15 : decode cX3_append 15 = .ok (.iconst 1, 1) := by decide +kernel
theorem dX3_append_16 : decode cX3_append 16 = .ok (.iadd, 1) := by decide +kernel
theorem dX3_append_17 : decode cX3_append 17 = .ok (.putfield 15, 3) := by decide +kernel
theorem dX3_append_20 : decode cX3_append 20 = .ok (.return_, 1) := by decide +kernel
theorem dX4_init_0 : decode cX4_init 0 = .ok (.aload_n 0, 1) := by decide +kernel
theorem dX4_init_1 : decode cX4_init 1 = .ok (.invokespecial 3, 3) := by decide +kernel
theorem dX4_init_4 : decode cX4_init 4 = .ok (.aload_n 0, 1) := by decide +kernel
theorem dX4_init_5 : decode cX4_init 5 = .ok (.bipush 48, 2) := by decide +kernel
theorem dX4_init_7 : decode cX4_init 7 = .ok (.newarray .long, 2) := by decide +kernel
theorem dX4_init_9 : decode cX4_init 9 = .ok (.putfield 9, 3) := by decide +kernel
theorem dX4_init_12 : decode cX4_init 12 = .ok (.aload_n 0, 1) := by decide +kernel
theorem dX4_init_13 : decode cX4_init 13 = .ok (.iconst (-1), 1) := by decide +kernel
theorem dX4_init_14 : decode cX4_init 14 = .ok (.putfield 15, 3) := by decide +kernel
theorem dX4_init_17 : decode cX4_init 17 = .ok (.return_, 1) := by decide +kernel
theorem dX4_begin_0 : decode cX4_begin 0 = .ok (.aload_n 0, 1) := by decide +kernel
theorem dX4_begin_1 : decode cX4_begin 1 = .ok (.getfield 9, 3) := by decide +kernel
theorem dX4_begin_4 : decode cX4_begin 4 = .ok (.lconst 0, 1) := by decide +kernel
theorem dX4_begin_5 : decode cX4_begin 5 = .ok (.invokestatic 19, 3) := by decide +kernel
theorem dX4_begin_8 : decode cX4_begin 8 = .ok (.aload_n 0, 1) := by decide +kernel
theorem dX4_begin_9 : decode cX4_begin 9 = .ok (.iload_n 1, 1) := by decide +kernel
theorem dX4_begin_10 : decode cX4_begin 10 = .ok (.putfield 25, 3) := by decide +kernel
theorem dX4_begin_13 : decode cX4_begin 13 = .ok (.aload_n 0, 1) := by decide +kernel
theorem dX4_begin_14 : decode cX4_begin 14 = .ok (.iload_n 2, 1) := by decide +kernel
theorem dX4_begin_15 : decode cX4_begin 15 = .ok (.putfield 15, 3) := by decide +kernel
theorem dX4_begin_18 : decode cX4_begin 18 = .ok (.return_, 1) := by decide +kernel
theorem dX4_refusal_0 : decode cX4_refusal 0 = .ok (.aload_n 0, 1) := by decide +kernel
theorem dX4_refusal_1 : decode cX4_refusal 1 = .ok (.getfield 15, 3) := by decide +kernel
theorem dX4_refusal_4 : decode cX4_refusal 4 = .ok (.iconst (-1), 1) := by decide +kernel
theorem dX4_refusal_5 : decode cX4_refusal 5 = .ok (.if_icmp .ne 6, 3) := by decide +kernel
theorem dX4_refusal_8 : decode cX4_refusal 8 = .ok (.bipush (-11), 2) := by decide +kernel
theorem dX4_refusal_10 : decode cX4_refusal 10 = .ok (.ireturn, 1) := by decide +kernel
theorem dX4_refusal_11 : decode cX4_refusal 11 = .ok (.aload_n 0, 1) := by decide +kernel
theorem dX4_refusal_12 : decode cX4_refusal 12 = .ok (.getfield 25, 3) := by decide +kernel
theorem dX4_refusal_15 : decode cX4_refusal 15 = .ok (.iload_n 1, 1) := by decide +kernel
theorem dX4_refusal_16 : decode cX4_refusal 16 = .ok (.if_icmp .eq 6, 3) := by decide +kernel
theorem dX4_refusal_19 : decode cX4_refusal 19 = .ok (.bipush (-12), 2) := by decide +kernel
theorem dX4_refusal_21 : decode cX4_refusal 21 = .ok (.ireturn, 1) := by decide +kernel
theorem dX4_refusal_22 : decode cX4_refusal 22 = .ok (.iload_n 2, 1) := by decide +kernel
theorem dX4_refusal_23 : decode cX4_refusal 23 = .ok (.ifCond .lt 17, 3) := by decide +kernel
theorem dX4_refusal_26 : decode cX4_refusal 26 = .ok (.iload_n 3, 1) := by decide +kernel
theorem dX4_refusal_27 : decode cX4_refusal 27 = .ok (.ifCond .lt 13, 3) := by decide +kernel
theorem dX4_refusal_30 : decode cX4_refusal 30 = .ok (.iload_n 2, 1) := by decide +kernel
theorem dX4_refusal_31 : decode cX4_refusal 31 = .ok (.aload_n 0, 1) := by decide +kernel
theorem dX4_refusal_32 : decode cX4_refusal 32 = .ok (.getfield 15, 3) := by decide +kernel
theorem dX4_refusal_35 : decode cX4_refusal 35 = .ok (.iload_n 3, 1) := by decide +kernel
theorem dX4_refusal_36 : decode cX4_refusal 36 = .ok (.isub, 1) := by decide +kernel
theorem dX4_refusal_37 : decode cX4_refusal 37 = .ok (.if_icmp .le 8, 3) := by decide +kernel
theorem dX4_refusal_40 : decode cX4_refusal 40 = .ok (.bipush (-13), 2) := by decide +kernel
theorem dX4_refusal_42 : decode cX4_refusal 42 = .ok (.goto 4, 3) := by decide +kernel
theorem dX4_refusal_45 : decode cX4_refusal 45 = .ok (.iconst 0, 1) := by decide +kernel
theorem dX4_refusal_46 : decode cX4_refusal 46 = .ok (.ireturn, 1) := by decide +kernel
theorem dX4_store_0 : decode cX4_store 0 = .ok (.aload_n 0, 1) := by decide +kernel
theorem dX4_store_1 : decode cX4_store 1 = .ok (.getfield 9, 3) := by decide +kernel
theorem dX4_store_4 : decode cX4_store 4 = .ok (.iload_n 1, 1) := by decide +kernel
theorem dX4_store_5 : decode cX4_store 5 = .ok (.aload_n 0, 1) := by decide +kernel
theorem dX4_store_6 : decode cX4_store 6 = .ok (.lload_n 2, 1) := by decide +kernel
theorem dX4_store_7 : decode cX4_store 7 = .ok (.invokevirtual 28, 3) := by decide +kernel
theorem dX4_store_10 : decode cX4_store 10 = .ok (.lastore, 1) := by decide +kernel
theorem dX4_store_11 : decode cX4_store 11 = .ok (.aload_n 0, 1) := by decide +kernel
theorem dX4_store_12 : decode cX4_store 12 = .ok (.getfield 9, 3) := by decide +kernel
theorem dX4_store_15 : decode cX4_store 15 = .ok (.iload_n 1, 1) := by decide +kernel
theorem dX4_store_16 : decode cX4_store 16 = .ok (.laload, 1) := by decide +kernel
theorem dX4_store_17 : decode cX4_store 17 = .ok (.lreturn, 1) := by decide +kernel
theorem dX4_narrowed_0 : decode cX4_narrowed 0 = .ok (.aload_n 0, 1) := by decide +kernel
theorem dX4_narrowed_1 : decode cX4_narrowed 1 = .ok (.getfield 25, 3) := by decide +kernel
theorem dX4_narrowed_4 : decode cX4_narrowed 4 = .ok (.tableswitch 42 0 2 #[28, 33, 38], 28) := by decide +kernel
theorem dX4_narrowed_32 : decode cX4_narrowed 32 = .ok (.lload_n 1, 1) := by decide +kernel
theorem dX4_narrowed_33 : decode cX4_narrowed 33 = .ok (.l2i, 1) := by decide +kernel
theorem dX4_narrowed_34 : decode cX4_narrowed 34 = .ok (.i2c, 1) := by decide +kernel
theorem dX4_narrowed_35 : decode cX4_narrowed 35 = .ok (.i2l, 1) := by decide +kernel
theorem dX4_narrowed_36 : decode cX4_narrowed 36 = .ok (.lreturn, 1) := by decide +kernel
theorem dX4_narrowed_37 : decode cX4_narrowed 37 = .ok (.lload_n 1, 1) := by decide +kernel
theorem dX4_narrowed_38 : decode cX4_narrowed 38 = .ok (.l2i, 1) := by decide +kernel
theorem dX4_narrowed_39 : decode cX4_narrowed 39 = .ok (.i2s, 1) := by decide +kernel
theorem dX4_narrowed_40 : decode cX4_narrowed 40 = .ok (.i2l, 1) := by decide +kernel
theorem dX4_narrowed_41 : decode cX4_narrowed 41 = .ok (.lreturn, 1) := by decide +kernel
theorem dX4_narrowed_42 : decode cX4_narrowed 42 = .ok (.lload_n 1, 1) := by decide +kernel
theorem dX4_narrowed_43 : decode cX4_narrowed 43 = .ok (.l2i, 1) := by decide +kernel
theorem dX4_narrowed_44 : decode cX4_narrowed 44 = .ok (.i2l, 1) := by decide +kernel
theorem dX4_narrowed_45 : decode cX4_narrowed 45 = .ok (.lreturn, 1) := by decide +kernel
theorem dX4_narrowed_46 : decode cX4_narrowed 46 = .ok (.lload_n 1, 1) := by decide +kernel
theorem dX4_narrowed_47 : decode cX4_narrowed 47 = .ok (.lreturn, 1) := by decide +kernel
theorem dX4_holdsBytes_0 : decode cX4_holdsBytes 0 = .ok (.iconst 0, 1) := by decide +kernel
theorem dX4_holdsBytes_1 : decode cX4_holdsBytes 1 = .ok (.istore_n 3, 1) := by decide +kernel
theorem dX4_holdsBytes_2 : decode cX4_holdsBytes 2 = .ok (.iload_n 3, 1) := by decide +kernel
theorem dX4_holdsBytes_3 : decode cX4_holdsBytes 3 = .ok (.iload_n 2, 1) := by decide +kernel
theorem dX4_holdsBytes_4 : decode cX4_holdsBytes 4 = .ok (.if_icmp .ge 25, 3) := by decide +kernel
theorem dX4_holdsBytes_7 : decode cX4_holdsBytes 7 = .ok (.aload_n 0, 1) := by decide +kernel
theorem dX4_holdsBytes_8 : decode cX4_holdsBytes 8 = .ok (.getfield 9, 3) := by decide +kernel
theorem dX4_holdsBytes_11 : decode cX4_holdsBytes 11 = .ok (.iload_n 1, 1) := by decide +kernel
theorem dX4_holdsBytes_12 : decode cX4_holdsBytes 12 = .ok (.iload_n 3, 1) := by decide +kernel
theorem dX4_holdsBytes_13 : decode cX4_holdsBytes 13 = .ok (.iadd, 1) := by decide +kernel
theorem dX4_holdsBytes_14 : decode cX4_holdsBytes 14 = .ok (.laload, 1) := by decide +kernel
theorem dX4_holdsBytes_15 : decode cX4_holdsBytes 15 = .ok (.invokestatic 32, 3) := by decide +kernel
theorem dX4_holdsBytes_18 : decode cX4_holdsBytes 18 = .ok (.ifCond .ne 5, 3) := by decide +kernel
theorem dX4_holdsBytes_21 : decode cX4_holdsBytes 21 = .ok (.iconst 0, 1) := by decide +kernel
theorem dX4_holdsBytes_22 : decode cX4_holdsBytes 22 = .ok (.ireturn, 1) := by decide +kernel
theorem dX4_holdsBytes_23 : decode cX4_holdsBytes 23 = .ok (.iinc 3 1, 3) := by decide +kernel
theorem dX4_holdsBytes_26 : decode cX4_holdsBytes 26 = .ok (.goto (-24), 3) := by decide +kernel
theorem dX4_holdsBytes_29 : decode cX4_holdsBytes 29 = .ok (.iconst 1, 1) := by decide +kernel
theorem dX4_holdsBytes_30 : decode cX4_holdsBytes 30 = .ok (.ireturn, 1) := by decide +kernel
theorem dX5_init_0 : decode cX5_init 0 = .ok (.aload_n 0, 1) := by decide +kernel
theorem dX5_init_1 : decode cX5_init 1 = .ok (.invokespecial 3, 3) := by decide +kernel
theorem dX5_init_4 : decode cX5_init 4 = .ok (.aload_n 0, 1) := by decide +kernel
theorem dX5_init_5 : decode cX5_init 5 = .ok (.new 9, 3) := by decide +kernel
theorem dX5_init_8 : decode cX5_init 8 = .ok (.dup, 1) := by decide +kernel
theorem dX5_init_9 : decode cX5_init 9 = .ok (.invokespecial 11, 3) := by decide +kernel
theorem dX5_init_12 : decode cX5_init 12 = .ok (.putfield 12, 3) := by decide +kernel
theorem dX5_init_15 : decode cX5_init 15 = .ok (.aload_n 0, 1) := by decide +kernel
theorem dX5_init_16 : decode cX5_init 16 = .ok (.new 9, 3) := by decide +kernel
theorem dX5_init_19 : decode cX5_init 19 = .ok (.dup, 1) := by decide +kernel
theorem dX5_init_20 : decode cX5_init 20 = .ok (.invokespecial 11, 3) := by decide +kernel
theorem dX5_init_23 : decode cX5_init 23 = .ok (.putfield 16, 3) := by decide +kernel
theorem dX5_init_26 : decode cX5_init 26 = .ok (.aload_n 0, 1) := by decide +kernel
theorem dX5_init_27 : decode cX5_init 27 = .ok (.new 19, 3) := by decide +kernel
theorem dX5_init_30 : decode cX5_init 30 = .ok (.dup, 1) := by decide +kernel
theorem dX5_init_31 : decode cX5_init 31 = .ok (.invokespecial 21, 3) := by decide +kernel
theorem dX5_init_34 : decode cX5_init 34 = .ok (.putfield 22, 3) := by decide +kernel
theorem dX5_init_37 : decode cX5_init 37 = .ok (.aload_n 0, 1) := by decide +kernel
theorem dX5_init_38 : decode cX5_init 38 = .ok (.new 26, 3) := by decide +kernel
theorem dX5_init_41 : decode cX5_init 41 = .ok (.dup, 1) := by decide +kernel
theorem dX5_init_42 : decode cX5_init 42 = .ok (.invokespecial 28, 3) := by decide +kernel
theorem dX5_init_45 : decode cX5_init 45 = .ok (.putfield 29, 3) := by decide +kernel
theorem dX5_init_48 : decode cX5_init 48 = .ok (.aload_n 0, 1) := by decide +kernel
theorem dX5_init_49 : decode cX5_init 49 = .ok (.iconst 2, 1) := by decide +kernel
theorem dX5_init_50 : decode cX5_init 50 = .ok (.anewarray 33, 3) := by decide +kernel
theorem dX5_init_53 : decode cX5_init 53 = .ok (.putfield 35, 3) := by decide +kernel
theorem dX5_init_56 : decode cX5_init 56 = .ok (.iconst 0, 1) := by decide +kernel
theorem dX5_init_57 : decode cX5_init 57 = .ok (.istore_n 1, 1) := by decide +kernel
theorem dX5_init_58 : decode cX5_init 58 = .ok (.iload_n 1, 1) := by decide +kernel
theorem dX5_init_59 : decode cX5_init 59 = .ok (.iconst 2, 1) := by decide +kernel
theorem dX5_init_60 : decode cX5_init 60 = .ok (.if_icmp .ge 23, 3) := by decide +kernel
theorem dX5_init_63 : decode cX5_init 63 = .ok (.aload_n 0, 1) := by decide +kernel
theorem dX5_init_64 : decode cX5_init 64 = .ok (.getfield 35, 3) := by decide +kernel
theorem dX5_init_67 : decode cX5_init 67 = .ok (.iload_n 1, 1) := by decide +kernel
theorem dX5_init_68 : decode cX5_init 68 = .ok (.new 33, 3) := by decide +kernel
theorem dX5_init_71 : decode cX5_init 71 = .ok (.dup, 1) := by decide +kernel
theorem dX5_init_72 : decode cX5_init 72 = .ok (.iconst (-1), 1) := by decide +kernel
theorem dX5_init_73 : decode cX5_init 73 = .ok (.invokespecial 39, 3) := by decide +kernel
theorem dX5_init_76 : decode cX5_init 76 = .ok (.aastore, 1) := by decide +kernel
theorem dX5_init_77 : decode cX5_init 77 = .ok (.iinc 1 1, 3) := by decide +kernel
theorem dX5_init_80 : decode cX5_init 80 = .ok (.goto (-22), 3) := by decide +kernel
theorem dX5_init_83 : decode cX5_init 83 = .ok (.aload_n 0, 1) := by decide +kernel
theorem dX5_init_84 : decode cX5_init 84 = .ok (.new 33, 3) := by decide +kernel
theorem dX5_init_87 : decode cX5_init 87 = .ok (.dup, 1) := by decide +kernel
theorem dX5_init_88 : decode cX5_init 88 = .ok (.iconst 0, 1) := by decide +kernel
theorem dX5_init_89 : decode cX5_init 89 = .ok (.invokespecial 39, 3) := by decide +kernel
theorem dX5_init_92 : decode cX5_init 92 = .ok (.putfield 42, 3) := by decide +kernel
theorem dX5_init_95 : decode cX5_init 95 = .ok (.aload_n 0, 1) := by decide +kernel
theorem dX5_init_96 : decode cX5_init 96 = .ok (.iconst 4, 1) := by decide +kernel
theorem dX5_init_97 : decode cX5_init 97 = .ok (.anewarray 46, 3) := by decide +kernel
theorem dX5_init_100 : decode cX5_init 100 = .ok (.putfield 48, 3) := by decide +kernel
theorem dX5_init_103 : decode cX5_init 103 = .ok (.iconst 0, 1) := by decide +kernel
theorem dX5_init_104 : decode cX5_init 104 = .ok (.istore_n 1, 1) := by decide +kernel
theorem dX5_init_105 : decode cX5_init 105 = .ok (.iload_n 1, 1) := by decide +kernel
theorem dX5_init_106 : decode cX5_init 106 = .ok (.iconst 4, 1) := by decide +kernel
theorem dX5_init_107 : decode cX5_init 107 = .ok (.if_icmp .ge 22, 3) := by decide +kernel
theorem dX5_init_110 : decode cX5_init 110 = .ok (.aload_n 0, 1) := by decide +kernel
theorem dX5_init_111 : decode cX5_init 111 = .ok (.getfield 48, 3) := by decide +kernel
theorem dX5_init_114 : decode cX5_init 114 = .ok (.iload_n 1, 1) := by decide +kernel
theorem dX5_init_115 : decode cX5_init 115 = .ok (.new 46, 3) := by decide +kernel
theorem dX5_init_118 : decode cX5_init 118 = .ok (.dup, 1) := by decide +kernel
theorem dX5_init_119 : decode cX5_init 119 = .ok (.invokespecial 52, 3) := by decide +kernel
theorem dX5_init_122 : decode cX5_init 122 = .ok (.aastore, 1) := by decide +kernel
theorem dX5_init_123 : decode cX5_init 123 = .ok (.iinc 1 1, 3) := by decide +kernel
theorem dX5_init_126 : decode cX5_init 126 = .ok (.goto (-21), 3) := by decide +kernel
theorem dX5_init_129 : decode cX5_init 129 = .ok (.aload_n 0, 1) := by decide +kernel
theorem dX5_init_130 : decode cX5_init 130 = .ok (.iconst 3, 1) := by decide +kernel
theorem dX5_init_131 : decode cX5_init 131 = .ok (.newarray .int, 2) := by decide +kernel
theorem dX5_init_133 : decode cX5_init 133 = .ok (.putfield 53, 3) := by decide +kernel
theorem dX5_init_136 : decode cX5_init 136 = .ok (.aload_n 0, 1) := by decide +kernel
theorem dX5_init_137 : decode cX5_init 137 = .ok (.bipush 48, 2) := by decide +kernel
theorem dX5_init_139 : decode cX5_init 139 = .ok (.newarray .int, 2) := by decide +kernel
theorem dX5_init_141 : decode cX5_init 141 = .ok (.putfield 57, 3) := by decide +kernel
theorem dX5_init_144 : decode cX5_init 144 = .ok (.return_, 1) := by decide +kernel
theorem dX5_put_0 : decode cX5_put 0 = .ok (.iload_n 1, 1) := by decide +kernel
theorem dX5_put_1 : decode cX5_put 1 = .ok (.invokestatic 60, 3) := by decide +kernel
theorem dX5_put_4 : decode cX5_put 4 = .ok (.ifCond .ne 5, 3) := by decide +kernel
theorem dX5_put_7 : decode cX5_put 7 = .ok (.iconst (-1), 1) := by decide +kernel
theorem dX5_put_8 : decode cX5_put 8 = .ok (.ireturn, 1) := by decide +kernel
theorem dX5_put_9 : decode cX5_put 9 = .ok (.aload_n 0, 1) := by decide +kernel
theorem dX5_put_10 : decode cX5_put 10 = .ok (.getfield 12, 3) := by decide +kernel
theorem dX5_put_13 : decode cX5_put 13 = .ok (.getfield 64, 3) := by decide +kernel
theorem dX5_put_16 : decode cX5_put 16 = .ok (.bipush 48, 2) := by decide +kernel
theorem dX5_put_18 : decode cX5_put 18 = .ok (.if_icmp .ne 6, 3) := by decide +kernel
theorem dX5_put_21 : decode cX5_put 21 = .ok (.bipush (-3), 2) := by decide +kernel
theorem dX5_put_23 : decode cX5_put 23 = .ok (.ireturn, 1) := by decide +kernel
theorem dX5_put_24 : decode cX5_put 24 = .ok (.aload_n 0, 1) := by decide +kernel
theorem dX5_put_25 : decode cX5_put 25 = .ok (.getfield 22, 3) := by decide +kernel
theorem dX5_put_28 : decode cX5_put 28 = .ok (.iconst 0, 1) := by decide +kernel
theorem dX5_put_29 : decode cX5_put 29 = .ok (.aload_n 0, 1) := by decide +kernel
theorem dX5_put_30 : decode cX5_put 30 = .ok (.getfield 12, 3) := by decide +kernel
theorem dX5_put_33 : decode cX5_put 33 = .ok (.getfield 64, 3) := by decide +kernel
theorem dX5_put_36 : decode cX5_put 36 = .ok (.iload_n 1, 1) := by decide +kernel
theorem dX5_put_37 : decode cX5_put 37 = .ok (.invokevirtual 68, 3) := by decide +kernel
theorem dX5_put_40 : decode cX5_put 40 = .ok (.aload_n 0, 1) := by decide +kernel
theorem dX5_put_41 : decode cX5_put 41 = .ok (.getfield 12, 3) := by decide +kernel
theorem dX5_put_44 : decode cX5_put 44 = .ok (.iload_n 1, 1) := by decide +kernel
theorem dX5_put_45 : decode cX5_put 45 = .ok (.invokevirtual 72, 3) := by decide +kernel
theorem dX5_put_48 : decode cX5_put 48 = .ok (.ireturn, 1) := by decide +kernel
theorem dX5_pop_0 : decode cX5_pop 0 = .ok (.aload_n 0, 1) := by decide +kernel
theorem dX5_pop_1 : decode cX5_pop 1 = .ok (.getfield 12, 3) := by decide +kernel
theorem dX5_pop_4 : decode cX5_pop 4 = .ok (.getfield 64, 3) := by decide +kernel
theorem dX5_pop_7 : decode cX5_pop 7 = .ok (.ifCond .ne 6, 3) := by decide +kernel
theorem dX5_pop_10 : decode cX5_pop 10 = .ok (.bipush (-2), 2) := by decide +kernel
theorem dX5_pop_12 : decode cX5_pop 12 = .ok (.ireturn, 1) := by decide +kernel
theorem dX5_pop_13 : decode cX5_pop 13 = .ok (.aload_n 0, 1) := by decide +kernel
theorem dX5_pop_14 : decode cX5_pop 14 = .ok (.getfield 12, 3) := by decide +kernel
theorem dX5_pop_17 : decode cX5_pop 17 = .ok (.invokevirtual 76, 3) := by decide +kernel
theorem dX5_pop_20 : decode cX5_pop 20 = .ok (.istore_n 1, 1) := by decide +kernel
theorem dX5_pop_21 : decode cX5_pop 21 = .ok (.aload_n 0, 1) := by decide +kernel
theorem dX5_pop_22 : decode cX5_pop 22 = .ok (.getfield 12, 3) := by decide +kernel
theorem dX5_pop_25 : decode cX5_pop 25 = .ok (.invokevirtual 80, 3) := by decide +kernel
theorem dX5_pop_28 : decode cX5_pop 28 = .ok (.aload_n 0, 1) := by decide +kernel
theorem dX5_pop_29 : decode cX5_pop 29 = .ok (.getfield 22, 3) := by decide +kernel
theorem dX5_pop_32 : decode cX5_pop 32 = .ok (.iconst 1, 1) := by decide +kernel
theorem dX5_pop_33 : decode cX5_pop 33 = .ok (.aload_n 0, 1) := by decide +kernel
theorem dX5_pop_34 : decode cX5_pop 34 = .ok (.getfield 12, 3) := by decide +kernel
theorem dX5_pop_37 : decode cX5_pop 37 = .ok (.getfield 64, 3) := by decide +kernel
theorem dX5_pop_40 : decode cX5_pop 40 = .ok (.iload_n 1, 1) := by decide +kernel
theorem dX5_pop_41 : decode cX5_pop 41 = .ok (.invokevirtual 68, 3) := by decide +kernel
theorem dX5_pop_44 : decode cX5_pop 44 = .ok (.iload_n 1, 1) := by decide +kernel
theorem dX5_pop_45 : decode cX5_pop 45 = .ok (.ireturn, 1) := by decide +kernel
theorem dX5_change_0 : decode cX5_change 0 = .ok (.aload_n 0, 1) := by decide +kernel
theorem dX5_change_1 : decode cX5_change 1 = .ok (.iload_n 1, 1) := by decide +kernel
theorem dX5_change_2 : decode cX5_change 2 = .ok (.invokevirtual 83, 3) := by decide +kernel
theorem dX5_change_5 : decode cX5_change 5 = .ok (.ifCond .eq 10, 3) := by decide +kernel
theorem dX5_change_8 : decode cX5_change 8 = .ok (.iload_n 2, 1) := by decide +kernel
theorem dX5_change_9 : decode cX5_change 9 = .ok (.invokestatic 60, 3) := by decide +kernel
theorem dX5_change_12 : decode cX5_change 12 = .ok (.ifCond .ne 5, 3) := by decide +kernel
theorem dX5_change_15 : decode cX5_change 15 = .ok (.iconst (-1), 1) := by decide +kernel
theorem dX5_change_16 : decode cX5_change 16 = .ok (.ireturn, 1) := by decide +kernel
theorem dX5_change_17 : decode cX5_change 17 = .ok (.aload_n 0, 1) := by decide +kernel
theorem dX5_change_18 : decode cX5_change 18 = .ok (.getfield 12, 3) := by decide +kernel
theorem dX5_change_21 : decode cX5_change 21 = .ok (.getfield 86, 3) := by decide +kernel
theorem dX5_change_24 : decode cX5_change 24 = .ok (.iload_n 1, 1) := by decide +kernel
theorem dX5_change_25 : decode cX5_change 25 = .ok (.iaload, 1) := by decide +kernel
theorem dX5_change_26 : decode cX5_change 26 = .ok (.istore_n 3, 1) := by decide +kernel
theorem dX5_change_27 : decode cX5_change 27 = .ok (.iload_n 3, 1) := by decide +kernel
theorem dX5_change_28 : decode cX5_change 28 = .ok (.iload_n 2, 1) := by decide +kernel
theorem dX5_change_29 : decode cX5_change 29 = .ok (.if_icmp .ne 6, 3) := by decide +kernel
theorem dX5_change_32 : decode cX5_change 32 = .ok (.bipush (-2), 2) := by decide +kernel
theorem dX5_change_34 : decode cX5_change 34 = .ok (.ireturn, 1) := by decide +kernel
theorem dX5_change_35 : decode cX5_change 35 = .ok (.aload_n 0, 1) := by decide +kernel
theorem dX5_change_36 : decode cX5_change 36 = .ok (.getfield 12, 3) := by decide +kernel
theorem dX5_change_39 : decode cX5_change 39 = .ok (.iload_n 1, 1) := by decide +kernel
theorem dX5_change_40 : decode cX5_change 40 = .ok (.iload_n 2, 1) := by decide +kernel
theorem dX5_change_41 : decode cX5_change 41 = .ok (.invokevirtual 89, 3) := by decide +kernel
theorem dX5_change_44 : decode cX5_change 44 = .ok (.aload_n 0, 1) := by decide +kernel
theorem dX5_change_45 : decode cX5_change 45 = .ok (.getfield 22, 3) := by decide +kernel
theorem dX5_change_48 : decode cX5_change 48 = .ok (.iconst 2, 1) := by decide +kernel
theorem dX5_change_49 : decode cX5_change 49 = .ok (.iload_n 1, 1) := by decide +kernel
theorem dX5_change_50 : decode cX5_change 50 = .ok (.iload_n 3, 1) := by decide +kernel
theorem dX5_change_51 : decode cX5_change 51 = .ok (.invokevirtual 68, 3) := by decide +kernel
theorem dX5_change_54 : decode cX5_change 54 = .ok (.iload_n 3, 1) := by decide +kernel
theorem dX5_change_55 : decode cX5_change 55 = .ok (.ireturn, 1) := by decide +kernel
theorem dX5_undo_0 : decode cX5_undo 0 = .ok (.aload_n 0, 1) := by decide +kernel
theorem dX5_undo_1 : decode cX5_undo 1 = .ok (.getfield 22, 3) := by decide +kernel
theorem dX5_undo_4 : decode cX5_undo 4 = .ok (.getfield 93, 3) := by decide +kernel
theorem dX5_undo_7 : decode cX5_undo 7 = .ok (.ifCond .ne 6, 3) := by decide +kernel
theorem dX5_undo_10 : decode cX5_undo 10 = .ok (.bipush (-4), 2) := by decide +kernel
theorem dX5_undo_12 : decode cX5_undo 12 = .ok (.ireturn, 1) := by decide +kernel
theorem dX5_undo_13 : decode cX5_undo 13 = .ok (.aload_n 0, 1) := by decide +kernel
theorem dX5_undo_14 : decode cX5_undo 14 = .ok (.getfield 22, 3) := by decide +kernel
theorem dX5_undo_17 : decode cX5_undo 17 = .ok (.aload_n 0, 1) := by decide +kernel
theorem dX5_undo_18 : decode cX5_undo 18 = .ok (.getfield 12, 3) := by decide +kernel
theorem dX5_undo_21 : decode cX5_undo 21 = .ok (.invokevirtual 94, 3) := by decide +kernel
theorem dX5_undo_24 : decode cX5_undo 24 = .ok (.aload_n 0, 1) := by decide +kernel
theorem dX5_undo_25 : decode cX5_undo 25 = .ok (.getfield 22, 3) := by decide +kernel
theorem dX5_undo_28 : decode cX5_undo 28 = .ok (.getfield 93, 3) := by decide +kernel
theorem dX5_undo_31 : decode cX5_undo 31 = .ok (.ireturn, 1) := by decide +kernel
theorem dX5_letter_0 : decode cX5_letter 0 = .ok (.aload_n 0, 1) := by decide +kernel
theorem dX5_letter_1 : decode cX5_letter 1 = .ok (.iload_n 1, 1) := by decide +kernel
theorem dX5_letter_2 : decode cX5_letter 2 = .ok (.invokevirtual 83, 3) := by decide +kernel
theorem dX5_letter_5 : decode cX5_letter 5 = .ok (.ifCond .eq 15, 3) := by decide +kernel
theorem dX5_letter_8 : decode cX5_letter 8 = .ok (.aload_n 0, 1) := by decide +kernel
theorem dX5_letter_9 : decode cX5_letter 9 = .ok (.getfield 12, 3) := by decide +kernel
theorem dX5_letter_12 : decode cX5_letter 12 = .ok (.getfield 86, 3) := by decide +kernel
theorem dX5_letter_15 : decode cX5_letter 15 = .ok (.iload_n 1, 1) := by decide +kernel
theorem dX5_letter_16 : decode cX5_letter 16 = .ok (.iaload, 1) := by decide +kernel
theorem dX5_letter_17 : decode cX5_letter 17 = .ok (.goto 4, 3) := by decide +kernel
theorem dX5_letter_20 : decode cX5_letter 20 = .ok (.iconst (-1), 1) := by decide +kernel
theorem dX5_letter_21 : decode cX5_letter 21 = .ok (.ireturn, 1) := by decide +kernel
theorem dX5_node_0 : decode cX5_node 0 = .ok (.aload_n 0, 1) := by decide +kernel
theorem dX5_node_1 : decode cX5_node 1 = .ok (.iload_n 1, 1) := by decide +kernel
theorem dX5_node_2 : decode cX5_node 2 = .ok (.invokevirtual 98, 3) := by decide +kernel
theorem dX5_node_5 : decode cX5_node 5 = .ok (.ifCond .ne 5, 3) := by decide +kernel
theorem dX5_node_8 : decode cX5_node 8 = .ok (.iconst (-1), 1) := by decide +kernel
theorem dX5_node_9 : decode cX5_node 9 = .ok (.ireturn, 1) := by decide +kernel
theorem dX5_node_10 : decode cX5_node 10 = .ok (.iload_n 2, 1) := by decide +kernel
theorem dX5_node_11 : decode cX5_node 11 = .ok (.tableswitch 153 0 7 #[45, 55, 64, 73, 105, 118, 127, 140], 45) := by decide +kernel
theorem dX5_node_56 : decode cX5_node 56 = .ok (.aload_n 0, 1) := by decide +kernel
theorem dX5_node_57 : decode cX5_node 57 = .ok (.getfield 12, 3) := by decide +kernel
theorem dX5_node_60 : decode cX5_node 60 = .ok (.getfield 101, 3) := by decide +kernel
theorem dX5_node_63 : decode cX5_node 63 = .ok (.iload_n 1, 1) := by decide +kernel
theorem dX5_node_64 : decode cX5_node 64 = .ok (.iaload, 1) := by decide +kernel
theorem dX5_node_65 : decode cX5_node 65 = .ok (.ireturn, 1) := by decide +kernel
theorem dX5_node_66 : decode cX5_node 66 = .ok (.aload_n 0, 1) := by decide +kernel
theorem dX5_node_67 : decode cX5_node 67 = .ok (.getfield 12, 3) := by decide +kernel
theorem dX5_node_70 : decode cX5_node 70 = .ok (.iload_n 1, 1) := by decide +kernel
theorem dX5_node_71 : decode cX5_node 71 = .ok (.invokevirtual 104, 3) := by decide +kernel
theorem dX5_node_74 : decode cX5_node 74 = .ok (.ireturn, 1) := by decide +kernel
theorem dX5_node_75 : decode cX5_node 75 = .ok (.aload_n 0, 1) := by decide +kernel
theorem dX5_node_76 : decode cX5_node 76 = .ok (.getfield 12, 3) := by decide +kernel
theorem dX5_node_79 : decode cX5_node 79 = .ok (.iload_n 1, 1) := by decide +kernel
theorem dX5_node_80 : decode cX5_node 80 = .ok (.invokevirtual 107, 3) := by decide +kernel
theorem dX5_node_83 : decode cX5_node 83 = .ok (.ireturn, 1) := by decide +kernel
theorem dX5_node_84 : decode cX5_node 84 = .ok (.aload_n 0, 1) := by decide +kernel
theorem dX5_node_85 : decode cX5_node 85 = .ok (.getfield 12, 3) := by decide +kernel
theorem dX5_node_88 : decode cX5_node 88 = .ok (.aload_n 0, 1) := by decide +kernel
theorem dX5_node_89 : decode cX5_node 89 = .ok (.getfield 12, 3) := by decide +kernel
theorem dX5_node_92 : decode cX5_node 92 = .ok (.getfield 86, 3) := by decide +kernel
theorem dX5_node_95 : decode cX5_node 95 = .ok (.aload_n 0, 1) := by decide +kernel
theorem dX5_node_96 : decode cX5_node 96 = .ok (.getfield 12, 3) := by decide +kernel
theorem dX5_node_99 : decode cX5_node 99 = .ok (.iload_n 1, 1) := by decide +kernel
theorem dX5_node_100 : decode cX5_node 100 = .ok (.invokevirtual 104, 3) := by decide +kernel
theorem dX5_node_103 : decode cX5_node 103 = .ok (.aload_n 0, 1) := by decide +kernel
theorem dX5_node_104 : decode cX5_node 104 = .ok (.getfield 12, 3) := by decide +kernel
theorem dX5_node_107 : decode cX5_node 107 = .ok (.getfield 101, 3) := by decide +kernel
theorem dX5_node_110 : decode cX5_node 110 = .ok (.iload_n 1, 1) := by decide +kernel
theorem dX5_node_111 : decode cX5_node 111 = .ok (.iaload, 1) := by decide +kernel
theorem dX5_node_112 : decode cX5_node 112 = .ok (.invokevirtual 110, 3) := by decide +kernel
theorem dX5_node_115 : decode cX5_node 115 = .ok (.ireturn, 1) := by decide +kernel
theorem dX5_node_116 : decode cX5_node 116 = .ok (.aload_n 0, 1) := by decide +kernel
theorem dX5_node_117 : decode cX5_node 117 = .ok (.getfield 12, 3) := by decide +kernel
theorem dX5_node_120 : decode cX5_node 120 = .ok (.getfield 114, 3) := by decide +kernel
theorem dX5_node_123 : decode cX5_node 123 = .ok (.iload_n 1, 1) := by decide +kernel
theorem dX5_node_124 : decode cX5_node 124 = .ok (.iaload, 1) := by decide +kernel
theorem dX5_node_125 : decode cX5_node 125 = .ok (.invokestatic 117, 3) := by decide +kernel
theorem dX5_node_128 : decode cX5_node 128 = .ok (.ireturn, 1) := by decide +kernel
theorem dX5_node_129 : decode cX5_node 129 = .ok (.aload_n 0, 1) := by decide +kernel
theorem dX5_node_130 : decode cX5_node 130 = .ok (.getfield 12, 3) := by decide +kernel
theorem dX5_node_133 : decode cX5_node 133 = .ok (.iload_n 1, 1) := by decide +kernel
theorem dX5_node_134 : decode cX5_node 134 = .ok (.invokevirtual 120, 3) := by decide +kernel
theorem dX5_node_137 : decode cX5_node 137 = .ok (.ireturn, 1) := by decide +kernel
theorem dX5_node_138 : decode cX5_node 138 = .ok (.aload_n 0, 1) := by decide +kernel
theorem dX5_node_139 : decode cX5_node 139 = .ok (.getfield 12, 3) := by decide +kernel
theorem dX5_node_142 : decode cX5_node 142 = .ok (.getfield 123, 3) := by decide +kernel
theorem dX5_node_145 : decode cX5_node 145 = .ok (.iload_n 1, 1) := by decide +kernel
theorem dX5_node_146 : decode cX5_node 146 = .ok (.iaload, 1) := by decide +kernel
theorem dX5_node_147 : decode cX5_node 147 = .ok (.invokestatic 117, 3) := by decide +kernel
theorem dX5_node_150 : decode cX5_node 150 = .ok (.ireturn, 1) := by decide +kernel
theorem dX5_node_151 : decode cX5_node 151 = .ok (.aload_n 0, 1) := by decide +kernel
theorem dX5_node_152 : decode cX5_node 152 = .ok (.getfield 12, 3) := by decide +kernel
theorem dX5_node_155 : decode cX5_node 155 = .ok (.getfield 126, 3) := by decide +kernel
theorem dX5_node_158 : decode cX5_node 158 = .ok (.iload_n 1, 1) := by decide +kernel
theorem dX5_node_159 : decode cX5_node 159 = .ok (.iaload, 1) := by decide +kernel
theorem dX5_node_160 : decode cX5_node 160 = .ok (.invokestatic 117, 3) := by decide +kernel
theorem dX5_node_163 : decode cX5_node 163 = .ok (.ireturn, 1) := by decide +kernel
theorem dX5_node_164 : decode cX5_node 164 = .ok (.iconst (-1), 1) := by decide +kernel
theorem dX5_node_165 : decode cX5_node 165 = .ok (.ireturn, 1) := by decide +kernel
theorem dX5_keep_0 : decode cX5_keep 0 = .ok (.iload_n 1, 1) := by decide +kernel
theorem dX5_keep_1 : decode cX5_keep 1 = .ok (.iconst 0, 1) := by decide +kernel
theorem dX5_keep_2 : decode cX5_keep 2 = .ok (.iconst 1, 1) := by decide +kernel
theorem dX5_keep_3 : decode cX5_keep 3 = .ok (.invokestatic 129, 3) := by decide +kernel
theorem dX5_keep_6 : decode cX5_keep 6 = .ok (.ifCond .ne 5, 3) := by decide +kernel
theorem dX5_keep_9 : decode cX5_keep 9 = .ok (.iconst (-1), 1) := by decide +kernel
theorem dX5_keep_10 : decode cX5_keep 10 = .ok (.ireturn, 1) := by decide +kernel
theorem dX5_keep_11 : decode cX5_keep 11 = .ok (.aload_n 0, 1) := by decide +kernel
theorem dX5_keep_12 : decode cX5_keep 12 = .ok (.getfield 35, 3) := by decide +kernel
theorem dX5_keep_15 : decode cX5_keep 15 = .ok (.iload_n 1, 1) := by decide +kernel
theorem dX5_keep_16 : decode cX5_keep 16 = .ok (.aaload, 1) := by decide +kernel
theorem dX5_keep_17 : decode cX5_keep 17 = .ok (.aload_n 0, 1) := by decide +kernel
theorem dX5_keep_18 : decode cX5_keep 18 = .ok (.getfield 12, 3) := by decide +kernel
theorem dX5_keep_21 : decode cX5_keep 21 = .ok (.getfield 86, 3) := by decide +kernel
theorem dX5_keep_24 : decode cX5_keep 24 = .ok (.aload_n 0, 1) := by decide +kernel
theorem dX5_keep_25 : decode cX5_keep 25 = .ok (.getfield 12, 3) := by decide +kernel
theorem dX5_keep_28 : decode cX5_keep 28 = .ok (.getfield 64, 3) := by decide +kernel
theorem dX5_keep_31 : decode cX5_keep 31 = .ok (.invokevirtual 133, 3) := by decide +kernel
theorem dX5_keep_34 : decode cX5_keep 34 = .ok (.aload_n 0, 1) := by decide +kernel
theorem dX5_keep_35 : decode cX5_keep 35 = .ok (.getfield 12, 3) := by decide +kernel
theorem dX5_keep_38 : decode cX5_keep 38 = .ok (.getfield 64, 3) := by decide +kernel
theorem dX5_keep_41 : decode cX5_keep 41 = .ok (.ireturn, 1) := by decide +kernel
theorem dX5_back_0 : decode cX5_back 0 = .ok (.iload_n 1, 1) := by decide +kernel
theorem dX5_back_1 : decode cX5_back 1 = .ok (.iconst 0, 1) := by decide +kernel
theorem dX5_back_2 : decode cX5_back 2 = .ok (.iconst 1, 1) := by decide +kernel
theorem dX5_back_3 : decode cX5_back 3 = .ok (.invokestatic 129, 3) := by decide +kernel
theorem dX5_back_6 : decode cX5_back 6 = .ok (.ifCond .ne 5, 3) := by decide +kernel
theorem dX5_back_9 : decode cX5_back 9 = .ok (.iconst (-1), 1) := by decide +kernel
theorem dX5_back_10 : decode cX5_back 10 = .ok (.ireturn, 1) := by decide +kernel
theorem dX5_back_11 : decode cX5_back 11 = .ok (.aload_n 0, 1) := by decide +kernel
theorem dX5_back_12 : decode cX5_back 12 = .ok (.getfield 35, 3) := by decide +kernel
theorem dX5_back_15 : decode cX5_back 15 = .ok (.iload_n 1, 1) := by decide +kernel
theorem dX5_back_16 : decode cX5_back 16 = .ok (.aaload, 1) := by decide +kernel
theorem dX5_back_17 : decode cX5_back 17 = .ok (.astore_n 2, 1) := by decide +kernel
theorem dX5_back_18 : decode cX5_back 18 = .ok (.aload_n 2, 1) := by decide +kernel
theorem dX5_back_19 : decode cX5_back 19 = .ok (.getfield 137, 3) := by decide +kernel
theorem dX5_back_22 : decode cX5_back 22 = .ok (.iconst (-1), 1) := by decide +kernel
theorem dX5_back_23 : decode cX5_back 23 = .ok (.if_icmp .ne 6, 3) := by decide +kernel
theorem dX5_back_26 : decode cX5_back 26 = .ok (.bipush (-2), 2) := by decide +kernel
theorem dX5_back_28 : decode cX5_back 28 = .ok (.ireturn, 1) := by decide +kernel
theorem dX5_back_29 : decode cX5_back 29 = .ok (.aload_n 0, 1) := by decide +kernel
theorem dX5_back_30 : decode cX5_back 30 = .ok (.getfield 12, 3) := by decide +kernel
theorem dX5_back_33 : decode cX5_back 33 = .ok (.aload_n 2, 1) := by decide +kernel
theorem dX5_back_34 : decode cX5_back 34 = .ok (.getfield 138, 3) := by decide +kernel
theorem dX5_back_37 : decode cX5_back 37 = .ok (.iconst 0, 1) := by decide +kernel
theorem dX5_back_38 : decode cX5_back 38 = .ok (.aload_n 2, 1) := by decide +kernel
theorem dX5_back_39 : decode cX5_back 39 = .ok (.getfield 137, 3) := by decide +kernel
theorem dX5_back_42 : decode cX5_back 42 = .ok (.invokevirtual 141, 3) := by decide +kernel
theorem dX5_back_45 : decode cX5_back 45 = .ok (.aload_n 0, 1) := by decide +kernel
theorem dX5_back_46 : decode cX5_back 46 = .ok (.getfield 22, 3) := by decide +kernel
theorem dX5_back_49 : decode cX5_back 49 = .ok (.invokevirtual 145, 3) := by decide +kernel
theorem dX5_back_52 : decode cX5_back 52 = .ok (.aload_n 0, 1) := by decide +kernel
theorem dX5_back_53 : decode cX5_back 53 = .ok (.getfield 12, 3) := by decide +kernel
theorem dX5_back_56 : decode cX5_back 56 = .ok (.getfield 64, 3) := by decide +kernel
theorem dX5_back_59 : decode cX5_back 59 = .ok (.ireturn, 1) := by decide +kernel
theorem dX5_common_0 : decode cX5_common 0 = .ok (.iload_n 1, 1) := by decide +kernel
theorem dX5_common_1 : decode cX5_common 1 = .ok (.iconst 0, 1) := by decide +kernel
theorem dX5_common_2 : decode cX5_common 2 = .ok (.iconst 1, 1) := by decide +kernel
theorem dX5_common_3 : decode cX5_common 3 = .ok (.invokestatic 129, 3) := by decide +kernel
theorem dX5_common_6 : decode cX5_common 6 = .ok (.ifCond .eq 12, 3) := by decide +kernel
theorem dX5_common_9 : decode cX5_common 9 = .ok (.iload_n 2, 1) := by decide +kernel
theorem dX5_common_10 : decode cX5_common 10 = .ok (.iconst 0, 1) := by decide +kernel
theorem dX5_common_11 : decode cX5_common 11 = .ok (.iconst 1, 1) := by decide +kernel
theorem dX5_common_12 : decode cX5_common 12 = .ok (.invokestatic 129, 3) := by decide +kernel
theorem dX5_common_15 : decode cX5_common 15 = .ok (.ifCond .ne 5, 3) := by decide +kernel
theorem dX5_common_18 : decode cX5_common 18 = .ok (.iconst (-1), 1) := by decide +kernel
theorem dX5_common_19 : decode cX5_common 19 = .ok (.ireturn, 1) := by decide +kernel
theorem dX5_common_20 : decode cX5_common 20 = .ok (.aload_n 0, 1) := by decide +kernel
theorem dX5_common_21 : decode cX5_common 21 = .ok (.getfield 35, 3) := by decide +kernel
theorem dX5_common_24 : decode cX5_common 24 = .ok (.iload_n 1, 1) := by decide +kernel
theorem dX5_common_25 : decode cX5_common 25 = .ok (.aaload, 1) := by decide +kernel
theorem dX5_common_26 : decode cX5_common 26 = .ok (.astore_n 3, 1) := by decide +kernel
theorem dX5_common_27 : decode cX5_common 27 = .ok (.aload_n 3, 1) := by decide +kernel
theorem dX5_common_28 : decode cX5_common 28 = .ok (.getfield 137, 3) := by decide +kernel
theorem dX5_common_31 : decode cX5_common 31 = .ok (.iconst (-1), 1) := by decide +kernel
theorem dX5_common_32 : decode cX5_common 32 = .ok (.if_icmp .ne 6, 3) := by decide +kernel
theorem dX5_common_35 : decode cX5_common 35 = .ok (.bipush (-2), 2) := by decide +kernel
theorem dX5_common_37 : decode cX5_common 37 = .ok (.ireturn, 1) := by decide +kernel
theorem dX5_common_38 : decode cX5_common 38 = .ok (.aload_n 0, 1) := by decide +kernel
theorem dX5_common_39 : decode cX5_common 39 = .ok (.getfield 16, 3) := by decide +kernel
theorem dX5_common_42 : decode cX5_common 42 = .ok (.aload_n 3, 1) := by decide +kernel
theorem dX5_common_43 : decode cX5_common 43 = .ok (.getfield 138, 3) := by decide +kernel
theorem dX5_common_46 : decode cX5_common 46 = .ok (.iconst 0, 1) := by decide +kernel
theorem dX5_common_47 : decode cX5_common 47 = .ok (.aload_n 3, 1) := by decide +kernel
theorem dX5_common_48 : decode cX5_common 48 = .ok (.getfield 137, 3) := by decide +kernel
theorem dX5_common_51 : decode cX5_common 51 = .ok (.invokevirtual 141, 3) := by decide +kernel
theorem dX5_common_54 : decode cX5_common 54 = .ok (.iconst 0, 1) := by decide +kernel
theorem dX5_common_55 : decode cX5_common 55 = .ok (.istore 4, 2) := by decide +kernel
theorem dX5_common_57 : decode cX5_common 57 = .ok (.iconst 0, 1) := by decide +kernel
theorem dX5_common_58 : decode cX5_common 58 = .ok (.istore 5, 2) := by decide +kernel
theorem dX5_common_60 : decode cX5_common 60 = .ok (.iconst 0, 1) := by decide +kernel
theorem dX5_common_61 : decode cX5_common 61 = .ok (.istore 6, 2) := by decide +kernel
theorem dX5_common_63 : decode cX5_common 63 = .ok (.iload 6, 2) := by decide +kernel
theorem dX5_common_65 : decode cX5_common 65 = .ok (.aload_n 0, 1) := by decide +kernel
theorem dX5_common_66 : decode cX5_common 66 = .ok (.getfield 16, 3) := by decide +kernel
theorem dX5_common_69 : decode cX5_common 69 = .ok (.getfield 148, 3) := by decide +kernel
theorem dX5_common_72 : decode cX5_common 72 = .ok (.if_icmp .ge 62, 3) := by decide +kernel
theorem dX5_common_75 : decode cX5_common 75 = .ok (.aload_n 0, 1) := by decide +kernel
theorem dX5_common_76 : decode cX5_common 76 = .ok (.getfield 16, 3) := by decide +kernel
theorem dX5_common_79 : decode cX5_common 79 = .ok (.getfield 101, 3) := by decide +kernel
theorem dX5_common_82 : decode cX5_common 82 = .ok (.iload 6, 2) := by decide +kernel
theorem dX5_common_84 : decode cX5_common 84 = .ok (.iaload, 1) := by decide +kernel
theorem dX5_common_85 : decode cX5_common 85 = .ok (.istore 7, 2) := by decide +kernel
theorem dX5_common_87 : decode cX5_common 87 = .ok (.aload_n 0, 1) := by decide +kernel
theorem dX5_common_88 : decode cX5_common 88 = .ok (.getfield 12, 3) := by decide +kernel
theorem dX5_common_91 : decode cX5_common 91 = .ok (.aload_n 0, 1) := by decide +kernel
theorem dX5_common_92 : decode cX5_common 92 = .ok (.getfield 16, 3) := by decide +kernel
theorem dX5_common_95 : decode cX5_common 95 = .ok (.getfield 86, 3) := by decide +kernel
theorem dX5_common_98 : decode cX5_common 98 = .ok (.aload_n 0, 1) := by decide +kernel
theorem dX5_common_99 : decode cX5_common 99 = .ok (.getfield 16, 3) := by decide +kernel
theorem dX5_common_102 : decode cX5_common 102 = .ok (.iload 6, 2) := by decide +kernel
theorem dX5_common_104 : decode cX5_common 104 = .ok (.invokevirtual 104, 3) := by decide +kernel
theorem dX5_common_107 : decode cX5_common 107 = .ok (.iload 7, 2) := by decide +kernel
theorem dX5_common_109 : decode cX5_common 109 = .ok (.invokevirtual 151, 3) := by decide +kernel
theorem dX5_common_112 : decode cX5_common 112 = .ok (.iconst (-1), 1) := by decide +kernel
theorem dX5_common_113 : decode cX5_common 113 = .ok (.if_icmp .eq 15, 3) := by decide +kernel
theorem dX5_common_116 : decode cX5_common 116 = .ok (.iinc 4 1, 3) := by decide +kernel
theorem dX5_common_119 : decode cX5_common 119 = .ok (.iload 5, 2) := by decide +kernel
theorem dX5_common_121 : decode cX5_common 121 = .ok (.iload 7, 2) := by decide +kernel
theorem dX5_common_123 : decode cX5_common 123 = .ok (.invokestatic 154, 3) := by decide +kernel
theorem dX5_common_126 : decode cX5_common 126 = .ok (.istore 5, 2) := by decide +kernel
theorem dX5_common_128 : decode cX5_common 128 = .ok (.iinc 6 1, 3) := by decide +kernel
theorem dX5_common_131 : decode cX5_common 131 = .ok (.goto (-68), 3) := by decide +kernel
theorem dX5_common_134 : decode cX5_common 134 = .ok (.iload_n 2, 1) := by decide +kernel
theorem dX5_common_135 : decode cX5_common 135 = .ok (.ifCond .ne 8, 3) := by decide +kernel
theorem dX5_common_138 : decode cX5_common 138 = .ok (.iload 4, 2) := by decide +kernel
theorem dX5_common_140 : decode cX5_common 140 = .ok (.goto 5, 3) := by decide +kernel
theorem dX5_common_143 : decode cX5_common 143 = .ok (.iload 5, 2) := by decide +kernel
theorem dX5_common_145 : decode cX5_common 145 = .ok (.ireturn, 1) := by decide +kernel
theorem dX5_ends_0 : decode cX5_ends 0 = .ok (.aload_n 0, 1) := by decide +kernel
theorem dX5_ends_1 : decode cX5_ends 1 = .ok (.iload_n 1, 1) := by decide +kernel
theorem dX5_ends_2 : decode cX5_ends 2 = .ok (.invokevirtual 83, 3) := by decide +kernel
theorem dX5_ends_5 : decode cX5_ends 5 = .ok (.ifCond .eq 8, 3) := by decide +kernel
theorem dX5_ends_8 : decode cX5_ends 8 = .ok (.iload_n 2, 1) := by decide +kernel
theorem dX5_ends_9 : decode cX5_ends 9 = .ok (.iconst (-1), 1) := by decide +kernel
theorem dX5_ends_10 : decode cX5_ends 10 = .ok (.if_icmp .ge 5, 3) := by decide +kernel
theorem dX5_ends_13 : decode cX5_ends 13 = .ok (.iconst (-1), 1) := by decide +kernel
theorem dX5_ends_14 : decode cX5_ends 14 = .ok (.ireturn, 1) := by decide +kernel
theorem dX5_ends_15 : decode cX5_ends 15 = .ok (.aload_n 0, 1) := by decide +kernel
theorem dX5_ends_16 : decode cX5_ends 16 = .ok (.getfield 12, 3) := by decide +kernel
theorem dX5_ends_19 : decode cX5_ends 19 = .ok (.getfield 160, 3) := by decide +kernel
theorem dX5_ends_22 : decode cX5_ends 22 = .ok (.iload_n 1, 1) := by decide +kernel
theorem dX5_ends_23 : decode cX5_ends 23 = .ok (.iaload, 1) := by decide +kernel
theorem dX5_ends_24 : decode cX5_ends 24 = .ok (.istore_n 3, 1) := by decide +kernel
theorem dX5_ends_25 : decode cX5_ends 25 = .ok (.aload_n 0, 1) := by decide +kernel
theorem dX5_ends_26 : decode cX5_ends 26 = .ok (.getfield 12, 3) := by decide +kernel
theorem dX5_ends_29 : decode cX5_ends 29 = .ok (.getfield 163, 3) := by decide +kernel
theorem dX5_ends_32 : decode cX5_ends 32 = .ok (.iload_n 3, 1) := by decide +kernel
theorem dX5_ends_33 : decode cX5_ends 33 = .ok (.iaload, 1) := by decide +kernel
theorem dX5_ends_34 : decode cX5_ends 34 = .ok (.istore 4, 2) := by decide +kernel
theorem dX5_ends_36 : decode cX5_ends 36 = .ok (.iload_n 2, 1) := by decide +kernel
theorem dX5_ends_37 : decode cX5_ends 37 = .ok (.iconst (-1), 1) := by decide +kernel
theorem dX5_ends_38 : decode cX5_ends 38 = .ok (.if_icmp .ne 6, 3) := by decide +kernel
theorem dX5_ends_41 : decode cX5_ends 41 = .ok (.iload 4, 2) := by decide +kernel
theorem dX5_ends_43 : decode cX5_ends 43 = .ok (.ireturn, 1) := by decide +kernel
theorem dX5_ends_44 : decode cX5_ends 44 = .ok (.iload_n 2, 1) := by decide +kernel
theorem dX5_ends_45 : decode cX5_ends 45 = .ok (.iload 4, 2) := by decide +kernel
theorem dX5_ends_47 : decode cX5_ends 47 = .ok (.if_icmp .lt 6, 3) := by decide +kernel
theorem dX5_ends_50 : decode cX5_ends 50 = .ok (.bipush (-4), 2) := by decide +kernel
theorem dX5_ends_52 : decode cX5_ends 52 = .ok (.ireturn, 1) := by decide +kernel
theorem dX5_ends_53 : decode cX5_ends 53 = .ok (.iconst 0, 1) := by decide +kernel
theorem dX5_ends_54 : decode cX5_ends 54 = .ok (.istore 5, 2) := by decide +kernel
theorem dX5_ends_56 : decode cX5_ends 56 = .ok (.iload 5, 2) := by decide +kernel
theorem dX5_ends_58 : decode cX5_ends 58 = .ok (.iload_n 2, 1) := by decide +kernel
theorem dX5_ends_59 : decode cX5_ends 59 = .ok (.if_icmp .ge 19, 3) := by decide +kernel
theorem dX5_ends_62 : decode cX5_ends 62 = .ok (.aload_n 0, 1) := by decide +kernel
theorem dX5_ends_63 : decode cX5_ends 63 = .ok (.getfield 12, 3) := by decide +kernel
theorem dX5_ends_66 : decode cX5_ends 66 = .ok (.getfield 114, 3) := by decide +kernel
theorem dX5_ends_69 : decode cX5_ends 69 = .ok (.iload_n 3, 1) := by decide +kernel
theorem dX5_ends_70 : decode cX5_ends 70 = .ok (.iaload, 1) := by decide +kernel
theorem dX5_ends_71 : decode cX5_ends 71 = .ok (.istore_n 3, 1) := by decide +kernel
theorem dX5_ends_72 : decode cX5_ends 72 = .ok (.iinc 5 1, 3) := by decide +kernel
theorem dX5_ends_75 : decode cX5_ends 75 = .ok (.goto (-19), 3) := by decide +kernel
theorem dX5_ends_78 : decode cX5_ends 78 = .ok (.aload_n 0, 1) := by decide +kernel
theorem dX5_ends_79 : decode cX5_ends 79 = .ok (.getfield 12, 3) := by decide +kernel
theorem dX5_ends_82 : decode cX5_ends 82 = .ok (.getfield 101, 3) := by decide +kernel
theorem dX5_ends_85 : decode cX5_ends 85 = .ok (.iload_n 3, 1) := by decide +kernel
theorem dX5_ends_86 : decode cX5_ends 86 = .ok (.iaload, 1) := by decide +kernel
theorem dX5_ends_87 : decode cX5_ends 87 = .ok (.ireturn, 1) := by decide +kernel
theorem dX5_groups_0 : decode cX5_groups 0 = .ok (.aload_n 0, 1) := by decide +kernel
theorem dX5_groups_1 : decode cX5_groups 1 = .ok (.iload_n 1, 1) := by decide +kernel
theorem dX5_groups_2 : decode cX5_groups 2 = .ok (.invokevirtual 83, 3) := by decide +kernel
theorem dX5_groups_5 : decode cX5_groups 5 = .ok (.ifCond .ne 5, 3) := by decide +kernel
theorem dX5_groups_8 : decode cX5_groups 8 = .ok (.iconst (-1), 1) := by decide +kernel
theorem dX5_groups_9 : decode cX5_groups 9 = .ok (.ireturn, 1) := by decide +kernel
theorem dX5_groups_10 : decode cX5_groups 10 = .ok (.iconst 1, 1) := by decide +kernel
theorem dX5_groups_11 : decode cX5_groups 11 = .ok (.istore_n 2, 1) := by decide +kernel
theorem dX5_groups_12 : decode cX5_groups 12 = .ok (.aload_n 0, 1) := by decide +kernel
theorem dX5_groups_13 : decode cX5_groups 13 = .ok (.getfield 12, 3) := by decide +kernel
theorem dX5_groups_16 : decode cX5_groups 16 = .ok (.getfield 123, 3) := by decide +kernel
theorem dX5_groups_19 : decode cX5_groups 19 = .ok (.aload_n 0, 1) := by decide +kernel
theorem dX5_groups_20 : decode cX5_groups 20 = .ok (.getfield 12, 3) := by decide +kernel
theorem dX5_groups_23 : decode cX5_groups 23 = .ok (.getfield 160, 3) := by decide +kernel
theorem dX5_groups_26 : decode cX5_groups 26 = .ok (.iload_n 1, 1) := by decide +kernel
theorem dX5_groups_27 : decode cX5_groups 27 = .ok (.iaload, 1) := by decide +kernel
theorem dX5_groups_28 : decode cX5_groups 28 = .ok (.iaload, 1) := by decide +kernel
theorem dX5_groups_29 : decode cX5_groups 29 = .ok (.istore_n 3, 1) := by decide +kernel
theorem dX5_groups_30 : decode cX5_groups 30 = .ok (.iconst 0, 1) := by decide +kernel
theorem dX5_groups_31 : decode cX5_groups 31 = .ok (.istore 4, 2) := by decide +kernel
theorem dX5_groups_33 : decode cX5_groups 33 = .ok (.iload 4, 2) := by decide +kernel
theorem dX5_groups_35 : decode cX5_groups 35 = .ok (.bipush 48, 2) := by decide +kernel
theorem dX5_groups_37 : decode cX5_groups 37 = .ok (.if_icmp .ge 28, 3) := by decide +kernel
theorem dX5_groups_40 : decode cX5_groups 40 = .ok (.iload_n 3, 1) := by decide +kernel
theorem dX5_groups_41 : decode cX5_groups 41 = .ok (.bipush 48, 2) := by decide +kernel
theorem dX5_groups_43 : decode cX5_groups 43 = .ok (.if_icmp .ge 22, 3) := by decide +kernel
theorem dX5_groups_46 : decode cX5_groups 46 = .ok (.iinc 2 1, 3) := by decide +kernel
theorem dX5_groups_49 : decode cX5_groups 49 = .ok (.aload_n 0, 1) := by decide +kernel
theorem dX5_groups_50 : decode cX5_groups 50 = .ok (.getfield 12, 3) := by decide +kernel
theorem dX5_groups_53 : decode cX5_groups 53 = .ok (.getfield 123, 3) := by decide +kernel
theorem dX5_groups_56 : decode cX5_groups 56 = .ok (.iload_n 3, 1) := by decide +kernel
theorem dX5_groups_57 : decode cX5_groups 57 = .ok (.iaload, 1) := by decide +kernel
theorem dX5_groups_58 : decode cX5_groups 58 = .ok (.istore_n 3, 1) := by decide +kernel
theorem dX5_groups_59 : decode cX5_groups 59 = .ok (.iinc 4 1, 3) := by decide +kernel
end
section
theorem dX5_groups_62 : decode cX5_groups 62 = .ok (.goto (-29), 3) := by decide +kernel
theorem dX5_groups_65 : decode cX5_groups 65 = .ok (.iload_n 2, 1) := by decide +kernel
theorem dX5_groups_66 : decode cX5_groups 66 = .ok (.ireturn, 1) := by decide +kernel
theorem dX5_cuts_0 : decode cX5_cuts 0 = .ok (.iload_n 1, 1) := by decide +kernel
theorem dX5_cuts_1 : decode cX5_cuts 1 = .ok (.iconst 0, 1) := by decide +kernel
theorem dX5_cuts_2 : decode cX5_cuts 2 = .ok (.aload_n 0, 1) := by decide +kernel
theorem dX5_cuts_3 : decode cX5_cuts 3 = .ok (.getfield 12, 3) := by decide +kernel
theorem dX5_cuts_6 : decode cX5_cuts 6 = .ok (.getfield 64, 3) := by decide +kernel
theorem dX5_cuts_9 : decode cX5_cuts 9 = .ok (.invokestatic 129, 3) := by decide +kernel
theorem dX5_cuts_12 : decode cX5_cuts 12 = .ok (.ifCond .eq 8, 3) := by decide +kernel
theorem dX5_cuts_15 : decode cX5_cuts 15 = .ok (.iload_n 2, 1) := by decide +kernel
theorem dX5_cuts_16 : decode cX5_cuts 16 = .ok (.iconst (-1), 1) := by decide +kernel
theorem dX5_cuts_17 : decode cX5_cuts 17 = .ok (.if_icmp .ge 5, 3) := by decide +kernel
theorem dX5_cuts_20 : decode cX5_cuts 20 = .ok (.iconst (-1), 1) := by decide +kernel
theorem dX5_cuts_21 : decode cX5_cuts 21 = .ok (.ireturn, 1) := by decide +kernel
theorem dX5_cuts_22 : decode cX5_cuts 22 = .ok (.aload_n 0, 1) := by decide +kernel
theorem dX5_cuts_23 : decode cX5_cuts 23 = .ok (.getfield 29, 3) := by decide +kernel
theorem dX5_cuts_26 : decode cX5_cuts 26 = .ok (.aload_n 0, 1) := by decide +kernel
theorem dX5_cuts_27 : decode cX5_cuts 27 = .ok (.getfield 12, 3) := by decide +kernel
theorem dX5_cuts_30 : decode cX5_cuts 30 = .ok (.iload_n 1, 1) := by decide +kernel
theorem dX5_cuts_31 : decode cX5_cuts 31 = .ok (.iconst 0, 1) := by decide +kernel
theorem dX5_cuts_32 : decode cX5_cuts 32 = .ok (.invokevirtual 166, 3) := by decide +kernel
theorem dX5_cuts_35 : decode cX5_cuts 35 = .ok (.aload_n 0, 1) := by decide +kernel
theorem dX5_cuts_36 : decode cX5_cuts 36 = .ok (.getfield 29, 3) := by decide +kernel
theorem dX5_cuts_39 : decode cX5_cuts 39 = .ok (.invokevirtual 170, 3) := by decide +kernel
theorem dX5_cuts_42 : decode cX5_cuts 42 = .ok (.istore_n 3, 1) := by decide +kernel
theorem dX5_cuts_43 : decode cX5_cuts 43 = .ok (.iload_n 2, 1) := by decide +kernel
theorem dX5_cuts_44 : decode cX5_cuts 44 = .ok (.iconst (-1), 1) := by decide +kernel
theorem dX5_cuts_45 : decode cX5_cuts 45 = .ok (.if_icmp .ne 5, 3) := by decide +kernel
theorem dX5_cuts_48 : decode cX5_cuts 48 = .ok (.iload_n 3, 1) := by decide +kernel
theorem dX5_cuts_49 : decode cX5_cuts 49 = .ok (.ireturn, 1) := by decide +kernel
theorem dX5_cuts_50 : decode cX5_cuts 50 = .ok (.iload_n 2, 1) := by decide +kernel
theorem dX5_cuts_51 : decode cX5_cuts 51 = .ok (.iload_n 3, 1) := by decide +kernel
theorem dX5_cuts_52 : decode cX5_cuts 52 = .ok (.if_icmp .ge 14, 3) := by decide +kernel
theorem dX5_cuts_55 : decode cX5_cuts 55 = .ok (.aload_n 0, 1) := by decide +kernel
theorem dX5_cuts_56 : decode cX5_cuts 56 = .ok (.getfield 29, 3) := by decide +kernel
theorem dX5_cuts_59 : decode cX5_cuts 59 = .ok (.iload_n 2, 1) := by decide +kernel
theorem dX5_cuts_60 : decode cX5_cuts 60 = .ok (.invokevirtual 173, 3) := by decide +kernel
theorem dX5_cuts_63 : decode cX5_cuts 63 = .ok (.goto 5, 3) := by decide +kernel
theorem dX5_cuts_66 : decode cX5_cuts 66 = .ok (.bipush (-4), 2) := by decide +kernel
theorem dX5_cuts_68 : decode cX5_cuts 68 = .ok (.ireturn, 1) := by decide +kernel
theorem dX5_evens_0 : decode cX5_evens 0 = .ok (.iload_n 1, 1) := by decide +kernel
theorem dX5_evens_1 : decode cX5_evens 1 = .ok (.iconst 0, 1) := by decide +kernel
theorem dX5_evens_2 : decode cX5_evens 2 = .ok (.aload_n 0, 1) := by decide +kernel
theorem dX5_evens_3 : decode cX5_evens 3 = .ok (.getfield 12, 3) := by decide +kernel
theorem dX5_evens_6 : decode cX5_evens 6 = .ok (.getfield 64, 3) := by decide +kernel
theorem dX5_evens_9 : decode cX5_evens 9 = .ok (.invokestatic 129, 3) := by decide +kernel
theorem dX5_evens_12 : decode cX5_evens 12 = .ok (.ifCond .ne 5, 3) := by decide +kernel
theorem dX5_evens_15 : decode cX5_evens 15 = .ok (.iconst (-1), 1) := by decide +kernel
theorem dX5_evens_16 : decode cX5_evens 16 = .ok (.ireturn, 1) := by decide +kernel
theorem dX5_evens_17 : decode cX5_evens 17 = .ok (.aload_n 0, 1) := by decide +kernel
theorem dX5_evens_18 : decode cX5_evens 18 = .ok (.getfield 29, 3) := by decide +kernel
theorem dX5_evens_21 : decode cX5_evens 21 = .ok (.aload_n 0, 1) := by decide +kernel
theorem dX5_evens_22 : decode cX5_evens 22 = .ok (.getfield 12, 3) := by decide +kernel
theorem dX5_evens_25 : decode cX5_evens 25 = .ok (.iload_n 1, 1) := by decide +kernel
theorem dX5_evens_26 : decode cX5_evens 26 = .ok (.iconst 1, 1) := by decide +kernel
theorem dX5_evens_27 : decode cX5_evens 27 = .ok (.invokevirtual 166, 3) := by decide +kernel
theorem dX5_evens_30 : decode cX5_evens 30 = .ok (.aload_n 0, 1) := by decide +kernel
theorem dX5_evens_31 : decode cX5_evens 31 = .ok (.getfield 29, 3) := by decide +kernel
theorem dX5_evens_34 : decode cX5_evens 34 = .ok (.invokevirtual 170, 3) := by decide +kernel
theorem dX5_evens_37 : decode cX5_evens 37 = .ok (.istore_n 2, 1) := by decide +kernel
theorem dX5_evens_38 : decode cX5_evens 38 = .ok (.iload_n 2, 1) := by decide +kernel
theorem dX5_evens_39 : decode cX5_evens 39 = .ok (.sipush 1000, 3) := by decide +kernel
theorem dX5_evens_42 : decode cX5_evens 42 = .ok (.if_icmp .ge 7, 3) := by decide +kernel
theorem dX5_evens_45 : decode cX5_evens 45 = .ok (.iload_n 2, 1) := by decide +kernel
theorem dX5_evens_46 : decode cX5_evens 46 = .ok (.goto 5, 3) := by decide +kernel
theorem dX5_evens_49 : decode cX5_evens 49 = .ok (.bipush (-4), 2) := by decide +kernel
theorem dX5_evens_51 : decode cX5_evens 51 = .ok (.ireturn, 1) := by decide +kernel
theorem dX5_in_0 : decode cX5_in 0 = .ok (.iload_n 1, 1) := by decide +kernel
theorem dX5_in_1 : decode cX5_in 1 = .ok (.ifCond .lt 28, 3) := by decide +kernel
theorem dX5_in_4 : decode cX5_in 4 = .ok (.iload_n 2, 1) := by decide +kernel
theorem dX5_in_5 : decode cX5_in 5 = .ok (.iload_n 1, 1) := by decide +kernel
theorem dX5_in_6 : decode cX5_in 6 = .ok (.if_icmp .lt 23, 3) := by decide +kernel
theorem dX5_in_9 : decode cX5_in 9 = .ok (.iload_n 2, 1) := by decide +kernel
theorem dX5_in_10 : decode cX5_in 10 = .ok (.aload_n 0, 1) := by decide +kernel
theorem dX5_in_11 : decode cX5_in 11 = .ok (.getfield 12, 3) := by decide +kernel
theorem dX5_in_14 : decode cX5_in 14 = .ok (.getfield 64, 3) := by decide +kernel
theorem dX5_in_17 : decode cX5_in 17 = .ok (.if_icmp .gt 12, 3) := by decide +kernel
theorem dX5_in_20 : decode cX5_in 20 = .ok (.iload_n 3, 1) := by decide +kernel
theorem dX5_in_21 : decode cX5_in 21 = .ok (.iconst 0, 1) := by decide +kernel
theorem dX5_in_22 : decode cX5_in 22 = .ok (.iconst 2, 1) := by decide +kernel
theorem dX5_in_23 : decode cX5_in 23 = .ok (.invokestatic 129, 3) := by decide +kernel
theorem dX5_in_26 : decode cX5_in 26 = .ok (.ifCond .ne 5, 3) := by decide +kernel
theorem dX5_in_29 : decode cX5_in 29 = .ok (.iconst (-1), 1) := by decide +kernel
theorem dX5_in_30 : decode cX5_in 30 = .ok (.ireturn, 1) := by decide +kernel
theorem dX5_in_31 : decode cX5_in 31 = .ok (.aload_n 0, 1) := by decide +kernel
theorem dX5_in_32 : decode cX5_in 32 = .ok (.getfield 16, 3) := by decide +kernel
theorem dX5_in_35 : decode cX5_in 35 = .ok (.aload_n 0, 1) := by decide +kernel
theorem dX5_in_36 : decode cX5_in 36 = .ok (.getfield 12, 3) := by decide +kernel
theorem dX5_in_39 : decode cX5_in 39 = .ok (.getfield 86, 3) := by decide +kernel
theorem dX5_in_42 : decode cX5_in 42 = .ok (.iload_n 1, 1) := by decide +kernel
theorem dX5_in_43 : decode cX5_in 43 = .ok (.iload_n 2, 1) := by decide +kernel
theorem dX5_in_44 : decode cX5_in 44 = .ok (.invokevirtual 141, 3) := by decide +kernel
theorem dX5_in_47 : decode cX5_in 47 = .ok (.iload_n 3, 1) := by decide +kernel
theorem dX5_in_48 : decode cX5_in 48 = .ok (.iconst 2, 1) := by decide +kernel
theorem dX5_in_49 : decode cX5_in 49 = .ok (.if_icmp .ne 11, 3) := by decide +kernel
theorem dX5_in_52 : decode cX5_in 52 = .ok (.aload_n 0, 1) := by decide +kernel
theorem dX5_in_53 : decode cX5_in 53 = .ok (.getfield 16, 3) := by decide +kernel
theorem dX5_in_56 : decode cX5_in 56 = .ok (.getfield 148, 3) := by decide +kernel
theorem dX5_in_59 : decode cX5_in 59 = .ok (.ireturn, 1) := by decide +kernel
theorem dX5_in_60 : decode cX5_in 60 = .ok (.aload_n 0, 1) := by decide +kernel
theorem dX5_in_61 : decode cX5_in 61 = .ok (.getfield 16, 3) := by decide +kernel
theorem dX5_in_64 : decode cX5_in 64 = .ok (.invokevirtual 176, 3) := by decide +kernel
theorem dX5_in_67 : decode cX5_in 67 = .ok (.istore 4, 2) := by decide +kernel
theorem dX5_in_69 : decode cX5_in 69 = .ok (.iload_n 3, 1) := by decide +kernel
theorem dX5_in_70 : decode cX5_in 70 = .ok (.ifCond .ne 24, 3) := by decide +kernel
theorem dX5_in_73 : decode cX5_in 73 = .ok (.iload 4, 2) := by decide +kernel
theorem dX5_in_75 : decode cX5_in 75 = .ok (.iconst (-1), 1) := by decide +kernel
theorem dX5_in_76 : decode cX5_in 76 = .ok (.if_icmp .ne 7, 3) := by decide +kernel
theorem dX5_in_79 : decode cX5_in 79 = .ok (.iconst 0, 1) := by decide +kernel
theorem dX5_in_80 : decode cX5_in 80 = .ok (.goto 13, 3) := by decide +kernel
theorem dX5_in_83 : decode cX5_in 83 = .ok (.aload_n 0, 1) := by decide +kernel
theorem dX5_in_84 : decode cX5_in 84 = .ok (.getfield 16, 3) := by decide +kernel
theorem dX5_in_87 : decode cX5_in 87 = .ok (.getfield 101, 3) := by decide +kernel
theorem dX5_in_90 : decode cX5_in 90 = .ok (.iload 4, 2) := by decide +kernel
theorem dX5_in_92 : decode cX5_in 92 = .ok (.iaload, 1) := by decide +kernel
theorem dX5_in_93 : decode cX5_in 93 = .ok (.ireturn, 1) := by decide +kernel
theorem dX5_in_94 : decode cX5_in 94 = .ok (.iload 4, 2) := by decide +kernel
theorem dX5_in_96 : decode cX5_in 96 = .ok (.iconst (-1), 1) := by decide +kernel
theorem dX5_in_97 : decode cX5_in 97 = .ok (.if_icmp .ne 8, 3) := by decide +kernel
theorem dX5_in_100 : decode cX5_in 100 = .ok (.bipush (-4), 2) := by decide +kernel
theorem dX5_in_102 : decode cX5_in 102 = .ok (.goto 14, 3) := by decide +kernel
theorem dX5_in_105 : decode cX5_in 105 = .ok (.iload_n 1, 1) := by decide +kernel
theorem dX5_in_106 : decode cX5_in 106 = .ok (.aload_n 0, 1) := by decide +kernel
theorem dX5_in_107 : decode cX5_in 107 = .ok (.getfield 16, 3) := by decide +kernel
theorem dX5_in_110 : decode cX5_in 110 = .ok (.iload 4, 2) := by decide +kernel
theorem dX5_in_112 : decode cX5_in 112 = .ok (.invokevirtual 104, 3) := by decide +kernel
theorem dX5_in_115 : decode cX5_in 115 = .ok (.iadd, 1) := by decide +kernel
theorem dX5_in_116 : decode cX5_in 116 = .ok (.ireturn, 1) := by decide +kernel
theorem dX5_mend_0 : decode cX5_mend 0 = .ok (.iload_n 1, 1) := by decide +kernel
theorem dX5_mend_1 : decode cX5_mend 1 = .ok (.ifCond .ne 11, 3) := by decide +kernel
theorem dX5_mend_4 : decode cX5_mend 4 = .ok (.aload_n 0, 1) := by decide +kernel
theorem dX5_mend_5 : decode cX5_mend 5 = .ok (.getfield 12, 3) := by decide +kernel
theorem dX5_mend_8 : decode cX5_mend 8 = .ok (.invokevirtual 179, 3) := by decide +kernel
theorem dX5_mend_11 : decode cX5_mend 11 = .ok (.ireturn, 1) := by decide +kernel
theorem dX5_mend_12 : decode cX5_mend 12 = .ok (.iload_n 1, 1) := by decide +kernel
theorem dX5_mend_13 : decode cX5_mend 13 = .ok (.iconst 1, 1) := by decide +kernel
theorem dX5_mend_14 : decode cX5_mend 14 = .ok (.if_icmp .ne 10, 3) := by decide +kernel
theorem dX5_mend_17 : decode cX5_mend 17 = .ok (.aload_n 0, 1) := by decide +kernel
theorem dX5_mend_18 : decode cX5_mend 18 = .ok (.invokevirtual 182, 3) := by decide +kernel
theorem dX5_mend_21 : decode cX5_mend 21 = .ok (.goto 4, 3) := by decide +kernel
theorem dX5_mend_24 : decode cX5_mend 24 = .ok (.iconst (-1), 1) := by decide +kernel
theorem dX5_mend_25 : decode cX5_mend 25 = .ok (.ireturn, 1) := by decide +kernel
theorem dX5_turned_0 : decode cX5_turned 0 = .ok (.iload_n 1, 1) := by decide +kernel
theorem dX5_turned_1 : decode cX5_turned 1 = .ok (.iconst 0, 1) := by decide +kernel
theorem dX5_turned_2 : decode cX5_turned 2 = .ok (.iconst 1, 1) := by decide +kernel
theorem dX5_turned_3 : decode cX5_turned 3 = .ok (.invokestatic 129, 3) := by decide +kernel
theorem dX5_turned_6 : decode cX5_turned 6 = .ok (.ifCond .ne 5, 3) := by decide +kernel
theorem dX5_turned_9 : decode cX5_turned 9 = .ok (.iconst (-1), 1) := by decide +kernel
theorem dX5_turned_10 : decode cX5_turned 10 = .ok (.ireturn, 1) := by decide +kernel
theorem dX5_turned_11 : decode cX5_turned 11 = .ok (.iconst 0, 1) := by decide +kernel
theorem dX5_turned_12 : decode cX5_turned 12 = .ok (.istore_n 2, 1) := by decide +kernel
theorem dX5_turned_13 : decode cX5_turned 13 = .ok (.bipush (-4), 2) := by decide +kernel
theorem dX5_turned_15 : decode cX5_turned 15 = .ok (.istore_n 3, 1) := by decide +kernel
theorem dX5_turned_16 : decode cX5_turned 16 = .ok (.aload_n 0, 1) := by decide +kernel
theorem dX5_turned_17 : decode cX5_turned 17 = .ok (.getfield 12, 3) := by decide +kernel
theorem dX5_turned_20 : decode cX5_turned 20 = .ok (.getfield 64, 3) := by decide +kernel
theorem dX5_turned_23 : decode cX5_turned 23 = .ok (.iconst 1, 1) := by decide +kernel
theorem dX5_turned_24 : decode cX5_turned 24 = .ok (.isub, 1) := by decide +kernel
theorem dX5_turned_25 : decode cX5_turned 25 = .ok (.istore 4, 2) := by decide +kernel
theorem dX5_turned_27 : decode cX5_turned 27 = .ok (.iload 4, 2) := by decide +kernel
theorem dX5_turned_29 : decode cX5_turned 29 = .ok (.ifCond .lt 27, 3) := by decide +kernel
theorem dX5_turned_32 : decode cX5_turned 32 = .ok (.aload_n 0, 1) := by decide +kernel
theorem dX5_turned_33 : decode cX5_turned 33 = .ok (.getfield 12, 3) := by decide +kernel
theorem dX5_turned_36 : decode cX5_turned 36 = .ok (.iload 4, 2) := by decide +kernel
theorem dX5_turned_38 : decode cX5_turned 38 = .ok (.invokevirtual 185, 3) := by decide +kernel
theorem dX5_turned_41 : decode cX5_turned 41 = .ok (.ifCond .eq 9, 3) := by decide +kernel
theorem dX5_turned_44 : decode cX5_turned 44 = .ok (.iinc 2 1, 3) := by decide +kernel
theorem dX5_turned_47 : decode cX5_turned 47 = .ok (.iload 4, 2) := by decide +kernel
theorem dX5_turned_49 : decode cX5_turned 49 = .ok (.istore_n 3, 1) := by decide +kernel
theorem dX5_turned_50 : decode cX5_turned 50 = .ok (.iinc 4 (-1), 3) := by decide +kernel
theorem dX5_turned_53 : decode cX5_turned 53 = .ok (.goto (-26), 3) := by decide +kernel
theorem dX5_turned_56 : decode cX5_turned 56 = .ok (.iload_n 1, 1) := by decide +kernel
theorem dX5_turned_57 : decode cX5_turned 57 = .ok (.ifCond .ne 7, 3) := by decide +kernel
theorem dX5_turned_60 : decode cX5_turned 60 = .ok (.iload_n 2, 1) := by decide +kernel
theorem dX5_turned_61 : decode cX5_turned 61 = .ok (.goto 4, 3) := by decide +kernel
theorem dX5_turned_64 : decode cX5_turned 64 = .ok (.iload_n 3, 1) := by decide +kernel
theorem dX5_turned_65 : decode cX5_turned 65 = .ok (.ireturn, 1) := by decide +kernel
theorem dX5_next_0 : decode cX5_next 0 = .ok (.iload_n 1, 1) := by decide +kernel
theorem dX5_next_1 : decode cX5_next 1 = .ok (.invokestatic 60, 3) := by decide +kernel
theorem dX5_next_4 : decode cX5_next 4 = .ok (.ifCond .eq 12, 3) := by decide +kernel
theorem dX5_next_7 : decode cX5_next 7 = .ok (.iload_n 2, 1) := by decide +kernel
theorem dX5_next_8 : decode cX5_next 8 = .ok (.iconst 0, 1) := by decide +kernel
theorem dX5_next_9 : decode cX5_next 9 = .ok (.iconst 1, 1) := by decide +kernel
theorem dX5_next_10 : decode cX5_next 10 = .ok (.invokestatic 129, 3) := by decide +kernel
theorem dX5_next_13 : decode cX5_next 13 = .ok (.ifCond .ne 5, 3) := by decide +kernel
theorem dX5_next_16 : decode cX5_next 16 = .ok (.iconst (-1), 1) := by decide +kernel
theorem dX5_next_17 : decode cX5_next 17 = .ok (.ireturn, 1) := by decide +kernel
theorem dX5_next_18 : decode cX5_next 18 = .ok (.aload_n 0, 1) := by decide +kernel
theorem dX5_next_19 : decode cX5_next 19 = .ok (.getfield 12, 3) := by decide +kernel
theorem dX5_next_22 : decode cX5_next 22 = .ok (.getfield 64, 3) := by decide +kernel
theorem dX5_next_25 : decode cX5_next 25 = .ok (.bipush 48, 2) := by decide +kernel
theorem dX5_next_27 : decode cX5_next 27 = .ok (.if_icmp .ne 6, 3) := by decide +kernel
theorem dX5_next_30 : decode cX5_next 30 = .ok (.bipush (-3), 2) := by decide +kernel
theorem dX5_next_32 : decode cX5_next 32 = .ok (.ireturn, 1) := by decide +kernel
theorem dX5_next_33 : decode cX5_next 33 = .ok (.aload_n 0, 1) := by decide +kernel
theorem dX5_next_34 : decode cX5_next 34 = .ok (.getfield 16, 3) := by decide +kernel
theorem dX5_next_37 : decode cX5_next 37 = .ok (.aload_n 0, 1) := by decide +kernel
theorem dX5_next_38 : decode cX5_next 38 = .ok (.getfield 12, 3) := by decide +kernel
theorem dX5_next_41 : decode cX5_next 41 = .ok (.getfield 86, 3) := by decide +kernel
theorem dX5_next_44 : decode cX5_next 44 = .ok (.iconst 0, 1) := by decide +kernel
theorem dX5_next_45 : decode cX5_next 45 = .ok (.aload_n 0, 1) := by decide +kernel
theorem dX5_next_46 : decode cX5_next 46 = .ok (.getfield 12, 3) := by decide +kernel
theorem dX5_next_49 : decode cX5_next 49 = .ok (.getfield 64, 3) := by decide +kernel
theorem dX5_next_52 : decode cX5_next 52 = .ok (.invokevirtual 141, 3) := by decide +kernel
theorem dX5_next_55 : decode cX5_next 55 = .ok (.aload_n 0, 1) := by decide +kernel
theorem dX5_next_56 : decode cX5_next 56 = .ok (.getfield 16, 3) := by decide +kernel
theorem dX5_next_59 : decode cX5_next 59 = .ok (.iload_n 1, 1) := by decide +kernel
theorem dX5_next_60 : decode cX5_next 60 = .ok (.invokevirtual 72, 3) := by decide +kernel
theorem dX5_next_63 : decode cX5_next 63 = .ok (.istore_n 3, 1) := by decide +kernel
theorem dX5_next_64 : decode cX5_next 64 = .ok (.iload_n 2, 1) := by decide +kernel
theorem dX5_next_65 : decode cX5_next 65 = .ok (.ifCond .ne 7, 3) := by decide +kernel
theorem dX5_next_68 : decode cX5_next 68 = .ok (.iload_n 3, 1) := by decide +kernel
theorem dX5_next_69 : decode cX5_next 69 = .ok (.goto 18, 3) := by decide +kernel
theorem dX5_next_72 : decode cX5_next 72 = .ok (.aload_n 0, 1) := by decide +kernel
theorem dX5_next_73 : decode cX5_next 73 = .ok (.getfield 16, 3) := by decide +kernel
theorem dX5_next_76 : decode cX5_next 76 = .ok (.getfield 148, 3) := by decide +kernel
theorem dX5_next_79 : decode cX5_next 79 = .ok (.aload_n 0, 1) := by decide +kernel
theorem dX5_next_80 : decode cX5_next 80 = .ok (.getfield 12, 3) := by decide +kernel
theorem dX5_next_83 : decode cX5_next 83 = .ok (.getfield 148, 3) := by decide +kernel
theorem dX5_next_86 : decode cX5_next 86 = .ok (.isub, 1) := by decide +kernel
theorem dX5_next_87 : decode cX5_next 87 = .ok (.ireturn, 1) := by decide +kernel
theorem dX5_grow_0 : decode cX5_grow 0 = .ok (.iload_n 1, 1) := by decide +kernel
theorem dX5_grow_1 : decode cX5_grow 1 = .ok (.iconst 0, 1) := by decide +kernel
theorem dX5_grow_2 : decode cX5_grow 2 = .ok (.iconst 3, 1) := by decide +kernel
theorem dX5_grow_3 : decode cX5_grow 3 = .ok (.invokestatic 129, 3) := by decide +kernel
theorem dX5_grow_6 : decode cX5_grow 6 = .ok (.ifCond .eq 8, 3) := by decide +kernel
theorem dX5_grow_9 : decode cX5_grow 9 = .ok (.iload_n 2, 1) := by decide +kernel
theorem dX5_grow_10 : decode cX5_grow 10 = .ok (.iconst (-1), 1) := by decide +kernel
theorem dX5_grow_11 : decode cX5_grow 11 = .ok (.if_icmp .ge 5, 3) := by decide +kernel
theorem dX5_grow_14 : decode cX5_grow 14 = .ok (.iconst (-1), 1) := by decide +kernel
theorem dX5_grow_15 : decode cX5_grow 15 = .ok (.ireturn, 1) := by decide +kernel
theorem dX5_grow_16 : decode cX5_grow 16 = .ok (.aload_n 0, 1) := by decide +kernel
theorem dX5_grow_17 : decode cX5_grow 17 = .ok (.getfield 12, 3) := by decide +kernel
theorem dX5_grow_20 : decode cX5_grow 20 = .ok (.getfield 64, 3) := by decide +kernel
theorem dX5_grow_23 : decode cX5_grow 23 = .ok (.iload_n 1, 1) := by decide +kernel
theorem dX5_grow_24 : decode cX5_grow 24 = .ok (.iadd, 1) := by decide +kernel
theorem dX5_grow_25 : decode cX5_grow 25 = .ok (.bipush 48, 2) := by decide +kernel
theorem dX5_grow_27 : decode cX5_grow 27 = .ok (.if_icmp .le 6, 3) := by decide +kernel
theorem dX5_grow_30 : decode cX5_grow 30 = .ok (.bipush (-3), 2) := by decide +kernel
theorem dX5_grow_32 : decode cX5_grow 32 = .ok (.ireturn, 1) := by decide +kernel
theorem dX5_grow_33 : decode cX5_grow 33 = .ok (.iload_n 2, 1) := by decide +kernel
theorem dX5_grow_34 : decode cX5_grow 34 = .ok (.iload_n 1, 1) := by decide +kernel
theorem dX5_grow_35 : decode cX5_grow 35 = .ok (.if_icmp .lt 6, 3) := by decide +kernel
theorem dX5_grow_38 : decode cX5_grow 38 = .ok (.bipush (-4), 2) := by decide +kernel
theorem dX5_grow_40 : decode cX5_grow 40 = .ok (.ireturn, 1) := by decide +kernel
theorem dX5_grow_41 : decode cX5_grow 41 = .ok (.aload_n 0, 1) := by decide +kernel
theorem dX5_grow_42 : decode cX5_grow 42 = .ok (.iload_n 1, 1) := by decide +kernel
theorem dX5_grow_43 : decode cX5_grow 43 = .ok (.invokevirtual 188, 3) := by decide +kernel
theorem dX5_grow_46 : decode cX5_grow 46 = .ok (.istore_n 3, 1) := by decide +kernel
theorem dX5_grow_47 : decode cX5_grow 47 = .ok (.iload_n 2, 1) := by decide +kernel
theorem dX5_grow_48 : decode cX5_grow 48 = .ok (.iconst (-1), 1) := by decide +kernel
theorem dX5_grow_49 : decode cX5_grow 49 = .ok (.if_icmp .ne 7, 3) := by decide +kernel
theorem dX5_grow_52 : decode cX5_grow 52 = .ok (.iload_n 3, 1) := by decide +kernel
theorem dX5_grow_53 : decode cX5_grow 53 = .ok (.goto 9, 3) := by decide +kernel
theorem dX5_grow_56 : decode cX5_grow 56 = .ok (.aload_n 0, 1) := by decide +kernel
theorem dX5_grow_57 : decode cX5_grow 57 = .ok (.getfield 53, 3) := by decide +kernel
theorem dX5_grow_60 : decode cX5_grow 60 = .ok (.iload_n 2, 1) := by decide +kernel
theorem dX5_grow_61 : decode cX5_grow 61 = .ok (.iaload, 1) := by decide +kernel
theorem dX5_grow_62 : decode cX5_grow 62 = .ok (.ireturn, 1) := by decide +kernel
theorem dX5_odds_0 : decode cX5_odds 0 = .ok (.iload_n 1, 1) := by decide +kernel
theorem dX5_odds_1 : decode cX5_odds 1 = .ok (.iconst 0, 1) := by decide +kernel
theorem dX5_odds_2 : decode cX5_odds 2 = .ok (.iconst 4, 1) := by decide +kernel
theorem dX5_odds_3 : decode cX5_odds 3 = .ok (.invokestatic 129, 3) := by decide +kernel
theorem dX5_odds_6 : decode cX5_odds 6 = .ok (.ifCond .eq 22, 3) := by decide +kernel
theorem dX5_odds_9 : decode cX5_odds 9 = .ok (.iload_n 2, 1) := by decide +kernel
theorem dX5_odds_10 : decode cX5_odds 10 = .ok (.iconst 0, 1) := by decide +kernel
theorem dX5_odds_11 : decode cX5_odds 11 = .ok (.bipush 9, 2) := by decide +kernel
theorem dX5_odds_13 : decode cX5_odds 13 = .ok (.invokestatic 129, 3) := by decide +kernel
theorem dX5_odds_16 : decode cX5_odds 16 = .ok (.ifCond .eq 12, 3) := by decide +kernel
theorem dX5_odds_19 : decode cX5_odds 19 = .ok (.iload_n 3, 1) := by decide +kernel
theorem dX5_odds_20 : decode cX5_odds 20 = .ok (.iconst 0, 1) := by decide +kernel
theorem dX5_odds_21 : decode cX5_odds 21 = .ok (.iconst 1, 1) := by decide +kernel
theorem dX5_odds_22 : decode cX5_odds 22 = .ok (.invokestatic 129, 3) := by decide +kernel
theorem dX5_odds_25 : decode cX5_odds 25 = .ok (.ifCond .ne 5, 3) := by decide +kernel
theorem dX5_odds_28 : decode cX5_odds 28 = .ok (.iconst (-1), 1) := by decide +kernel
theorem dX5_odds_29 : decode cX5_odds 29 = .ok (.ireturn, 1) := by decide +kernel
theorem dX5_odds_30 : decode cX5_odds 30 = .ok (.aload_n 0, 1) := by decide +kernel
theorem dX5_odds_31 : decode cX5_odds 31 = .ok (.getfield 12, 3) := by decide +kernel
theorem dX5_odds_34 : decode cX5_odds 34 = .ok (.getfield 64, 3) := by decide +kernel
theorem dX5_odds_37 : decode cX5_odds 37 = .ok (.iload_n 1, 1) := by decide +kernel
theorem dX5_odds_38 : decode cX5_odds 38 = .ok (.iadd, 1) := by decide +kernel
theorem dX5_odds_39 : decode cX5_odds 39 = .ok (.bipush 48, 2) := by decide +kernel
theorem dX5_odds_41 : decode cX5_odds 41 = .ok (.if_icmp .le 6, 3) := by decide +kernel
theorem dX5_odds_44 : decode cX5_odds 44 = .ok (.bipush (-3), 2) := by decide +kernel
theorem dX5_odds_46 : decode cX5_odds 46 = .ok (.ireturn, 1) := by decide +kernel
theorem dX5_odds_47 : decode cX5_odds 47 = .ok (.iload_n 1, 1) := by decide +kernel
theorem dX5_odds_48 : decode cX5_odds 48 = .ok (.invokestatic 191, 3) := by decide +kernel
theorem dX5_odds_51 : decode cX5_odds 51 = .ok (.istore 4, 2) := by decide +kernel
theorem dX5_odds_53 : decode cX5_odds 53 = .ok (.aload_n 0, 1) := by decide +kernel
theorem dX5_odds_54 : decode cX5_odds 54 = .ok (.iload_n 1, 1) := by decide +kernel
theorem dX5_odds_55 : decode cX5_odds 55 = .ok (.iload_n 2, 1) := by decide +kernel
theorem dX5_odds_56 : decode cX5_odds 56 = .ok (.invokevirtual 194, 3) := by decide +kernel
theorem dX5_odds_59 : decode cX5_odds 59 = .ok (.istore 5, 2) := by decide +kernel
theorem dX5_odds_61 : decode cX5_odds 61 = .ok (.iload 5, 2) := by decide +kernel
theorem dX5_odds_63 : decode cX5_odds 63 = .ok (.iload 4, 2) := by decide +kernel
theorem dX5_odds_65 : decode cX5_odds 65 = .ok (.invokestatic 197, 3) := by decide +kernel
theorem dX5_odds_68 : decode cX5_odds 68 = .ok (.istore 6, 2) := by decide +kernel
theorem dX5_odds_70 : decode cX5_odds 70 = .ok (.iload 6, 2) := by decide +kernel
theorem dX5_odds_72 : decode cX5_odds 72 = .ok (.iconst 1, 1) := by decide +kernel
theorem dX5_odds_73 : decode cX5_odds 73 = .ok (.if_icmp .ge 5, 3) := by decide +kernel
theorem dX5_odds_76 : decode cX5_odds 76 = .ok (.iconst (-1), 1) := by decide +kernel
theorem dX5_odds_77 : decode cX5_odds 77 = .ok (.ireturn, 1) := by decide +kernel
theorem dX5_odds_78 : decode cX5_odds 78 = .ok (.iload_n 3, 1) := by decide +kernel
theorem dX5_odds_79 : decode cX5_odds 79 = .ok (.ifCond .ne 8, 3) := by decide +kernel
theorem dX5_odds_82 : decode cX5_odds 82 = .ok (.iload 5, 2) := by decide +kernel
theorem dX5_odds_84 : decode cX5_odds 84 = .ok (.goto 5, 3) := by decide +kernel
theorem dX5_odds_87 : decode cX5_odds 87 = .ok (.iload 4, 2) := by decide +kernel
theorem dX5_odds_89 : decode cX5_odds 89 = .ok (.iload 6, 2) := by decide +kernel
theorem dX5_odds_91 : decode cX5_odds 91 = .ok (.idiv, 1) := by decide +kernel
theorem dX5_odds_92 : decode cX5_odds 92 = .ok (.ireturn, 1) := by decide +kernel
theorem dX5_walks_0 : decode cX5_walks 0 = .ok (.iload_n 1, 1) := by decide +kernel
theorem dX5_walks_1 : decode cX5_walks 1 = .ok (.iconst 0, 1) := by decide +kernel
theorem dX5_walks_2 : decode cX5_walks 2 = .ok (.bipush 60, 2) := by decide +kernel
theorem dX5_walks_4 : decode cX5_walks 4 = .ok (.invokestatic 129, 3) := by decide +kernel
theorem dX5_walks_7 : decode cX5_walks 7 = .ok (.ifCond .eq 22, 3) := by decide +kernel
theorem dX5_walks_10 : decode cX5_walks 10 = .ok (.iload_n 2, 1) := by decide +kernel
theorem dX5_walks_11 : decode cX5_walks 11 = .ok (.iconst 1, 1) := by decide +kernel
theorem dX5_walks_12 : decode cX5_walks 12 = .ok (.ldc 200, 2) := by decide +kernel
theorem dX5_walks_14 : decode cX5_walks 14 = .ok (.invokestatic 129, 3) := by decide +kernel
theorem dX5_walks_17 : decode cX5_walks 17 = .ok (.ifCond .eq 12, 3) := by decide +kernel
theorem dX5_walks_20 : decode cX5_walks 20 = .ok (.iload_n 3, 1) := by decide +kernel
theorem dX5_walks_21 : decode cX5_walks 21 = .ok (.iconst 0, 1) := by decide +kernel
theorem dX5_walks_22 : decode cX5_walks 22 = .ok (.iconst 1, 1) := by decide +kernel
theorem dX5_walks_23 : decode cX5_walks 23 = .ok (.invokestatic 129, 3) := by decide +kernel
theorem dX5_walks_26 : decode cX5_walks 26 = .ok (.ifCond .ne 5, 3) := by decide +kernel
theorem dX5_walks_29 : decode cX5_walks 29 = .ok (.iconst (-1), 1) := by decide +kernel
theorem dX5_walks_30 : decode cX5_walks 30 = .ok (.ireturn, 1) := by decide +kernel
theorem dX5_walks_31 : decode cX5_walks 31 = .ok (.aload_n 0, 1) := by decide +kernel
theorem dX5_walks_32 : decode cX5_walks 32 = .ok (.getfield 16, 3) := by decide +kernel
theorem dX5_walks_35 : decode cX5_walks 35 = .ok (.aload_n 0, 1) := by decide +kernel
theorem dX5_walks_36 : decode cX5_walks 36 = .ok (.getfield 12, 3) := by decide +kernel
theorem dX5_walks_39 : decode cX5_walks 39 = .ok (.getfield 86, 3) := by decide +kernel
theorem dX5_walks_42 : decode cX5_walks 42 = .ok (.iconst 0, 1) := by decide +kernel
theorem dX5_walks_43 : decode cX5_walks 43 = .ok (.aload_n 0, 1) := by decide +kernel
theorem dX5_walks_44 : decode cX5_walks 44 = .ok (.getfield 12, 3) := by decide +kernel
theorem dX5_walks_47 : decode cX5_walks 47 = .ok (.getfield 64, 3) := by decide +kernel
theorem dX5_walks_50 : decode cX5_walks 50 = .ok (.invokevirtual 141, 3) := by decide +kernel
theorem dX5_walks_53 : decode cX5_walks 53 = .ok (.iload_n 2, 1) := by decide +kernel
theorem dX5_walks_54 : decode cX5_walks 54 = .ok (.i2l, 1) := by decide +kernel
theorem dX5_walks_55 : decode cX5_walks 55 = .ok (.lstore 4, 2) := by decide +kernel
theorem dX5_walks_57 : decode cX5_walks 57 = .ok (.iconst 0, 1) := by decide +kernel
theorem dX5_walks_58 : decode cX5_walks 58 = .ok (.istore 6, 2) := by decide +kernel
theorem dX5_walks_60 : decode cX5_walks 60 = .ok (.iload 6, 2) := by decide +kernel
theorem dX5_walks_62 : decode cX5_walks 62 = .ok (.iload_n 1, 1) := by decide +kernel
theorem dX5_walks_63 : decode cX5_walks 63 = .ok (.if_icmp .ge 98, 3) := by decide +kernel
theorem dX5_walks_66 : decode cX5_walks 66 = .ok (.ldc2_w 201, 3) := by decide +kernel
theorem dX5_walks_69 : decode cX5_walks 69 = .ok (.lload 4, 2) := by decide +kernel
theorem dX5_walks_71 : decode cX5_walks 71 = .ok (.lmul, 1) := by decide +kernel
theorem dX5_walks_72 : decode cX5_walks 72 = .ok (.ldc2_w 203, 3) := by decide +kernel
theorem dX5_walks_75 : decode cX5_walks 75 = .ok (.lrem, 1) := by decide +kernel
theorem dX5_walks_76 : decode cX5_walks 76 = .ok (.lstore 4, 2) := by decide +kernel
theorem dX5_walks_78 : decode cX5_walks 78 = .ok (.lload 4, 2) := by decide +kernel
theorem dX5_walks_80 : decode cX5_walks 80 = .ok (.ldc2_w 205, 3) := by decide +kernel
theorem dX5_walks_83 : decode cX5_walks 83 = .ok (.ldiv, 1) := by decide +kernel
theorem dX5_walks_84 : decode cX5_walks 84 = .ok (.ldc2_w 207, 3) := by decide +kernel
theorem dX5_walks_87 : decode cX5_walks 87 = .ok (.lrem, 1) := by decide +kernel
theorem dX5_walks_88 : decode cX5_walks 88 = .ok (.lconst 0, 1) := by decide +kernel
theorem dX5_walks_89 : decode cX5_walks 89 = .ok (.lcmp, 1) := by decide +kernel
theorem dX5_walks_90 : decode cX5_walks 90 = .ok (.ifCond .ne 17, 3) := by decide +kernel
theorem dX5_walks_93 : decode cX5_walks 93 = .ok (.aload_n 0, 1) := by decide +kernel
theorem dX5_walks_94 : decode cX5_walks 94 = .ok (.getfield 16, 3) := by decide +kernel
theorem dX5_walks_97 : decode cX5_walks 97 = .ok (.getfield 64, 3) := by decide +kernel
theorem dX5_walks_100 : decode cX5_walks 100 = .ok (.ifCond .le 7, 3) := by decide +kernel
theorem dX5_walks_103 : decode cX5_walks 103 = .ok (.iconst 1, 1) := by decide +kernel
theorem dX5_walks_104 : decode cX5_walks 104 = .ok (.goto 4, 3) := by decide +kernel
theorem dX5_walks_107 : decode cX5_walks 107 = .ok (.iconst 0, 1) := by decide +kernel
theorem dX5_walks_108 : decode cX5_walks 108 = .ok (.istore 7, 2) := by decide +kernel
theorem dX5_walks_110 : decode cX5_walks 110 = .ok (.iload 7, 2) := by decide +kernel
theorem dX5_walks_112 : decode cX5_walks 112 = .ok (.ifCond .ne 15, 3) := by decide +kernel
theorem dX5_walks_115 : decode cX5_walks 115 = .ok (.aload_n 0, 1) := by decide +kernel
theorem dX5_walks_116 : decode cX5_walks 116 = .ok (.getfield 16, 3) := by decide +kernel
theorem dX5_walks_119 : decode cX5_walks 119 = .ok (.getfield 64, 3) := by decide +kernel
theorem dX5_walks_122 : decode cX5_walks 122 = .ok (.bipush 48, 2) := by decide +kernel
theorem dX5_walks_124 : decode cX5_walks 124 = .ok (.if_icmp .ne 13, 3) := by decide +kernel
theorem dX5_walks_127 : decode cX5_walks 127 = .ok (.aload_n 0, 1) := by decide +kernel
theorem dX5_walks_128 : decode cX5_walks 128 = .ok (.getfield 16, 3) := by decide +kernel
theorem dX5_walks_131 : decode cX5_walks 131 = .ok (.invokevirtual 80, 3) := by decide +kernel
theorem dX5_walks_134 : decode cX5_walks 134 = .ok (.goto 21, 3) := by decide +kernel
theorem dX5_walks_137 : decode cX5_walks 137 = .ok (.aload_n 0, 1) := by decide +kernel
theorem dX5_walks_138 : decode cX5_walks 138 = .ok (.getfield 16, 3) := by decide +kernel
theorem dX5_walks_141 : decode cX5_walks 141 = .ok (.bipush 97, 2) := by decide +kernel
theorem dX5_walks_143 : decode cX5_walks 143 = .ok (.lload 4, 2) := by decide +kernel
theorem dX5_walks_145 : decode cX5_walks 145 = .ok (.ldc2_w 209, 3) := by decide +kernel
theorem dX5_walks_148 : decode cX5_walks 148 = .ok (.lrem, 1) := by decide +kernel
theorem dX5_walks_149 : decode cX5_walks 149 = .ok (.l2i, 1) := by decide +kernel
theorem dX5_walks_150 : decode cX5_walks 150 = .ok (.iadd, 1) := by decide +kernel
theorem dX5_walks_151 : decode cX5_walks 151 = .ok (.invokevirtual 72, 3) := by decide +kernel
theorem dX5_walks_154 : decode cX5_walks 154 = .ok (.pop, 1) := by decide +kernel
theorem dX5_walks_155 : decode cX5_walks 155 = .ok (.iinc 6 1, 3) := by decide +kernel
theorem dX5_walks_158 : decode cX5_walks 158 = .ok (.goto (-98), 3) := by decide +kernel
theorem dX5_walks_161 : decode cX5_walks 161 = .ok (.iload_n 3, 1) := by decide +kernel
theorem dX5_walks_162 : decode cX5_walks 162 = .ok (.ifCond .ne 13, 3) := by decide +kernel
theorem dX5_walks_165 : decode cX5_walks 165 = .ok (.aload_n 0, 1) := by decide +kernel
theorem dX5_walks_166 : decode cX5_walks 166 = .ok (.getfield 16, 3) := by decide +kernel
theorem dX5_walks_169 : decode cX5_walks 169 = .ok (.getfield 148, 3) := by decide +kernel
theorem dX5_walks_172 : decode cX5_walks 172 = .ok (.goto 10, 3) := by decide +kernel
theorem dX5_walks_175 : decode cX5_walks 175 = .ok (.aload_n 0, 1) := by decide +kernel
theorem dX5_walks_176 : decode cX5_walks 176 = .ok (.getfield 16, 3) := by decide +kernel
theorem dX5_walks_179 : decode cX5_walks 179 = .ok (.getfield 64, 3) := by decide +kernel
theorem dX5_walks_182 : decode cX5_walks 182 = .ok (.ireturn, 1) := by decide +kernel
theorem dX5_feed_0 : decode cX5_feed 0 = .ok (.iload_n 1, 1) := by decide +kernel
theorem dX5_feed_1 : decode cX5_feed 1 = .ok (.i2l, 1) := by decide +kernel
theorem dX5_feed_2 : decode cX5_feed 2 = .ok (.invokestatic 211, 3) := by decide +kernel
theorem dX5_feed_5 : decode cX5_feed 5 = .ok (.ifCond .ne 5, 3) := by decide +kernel
theorem dX5_feed_8 : decode cX5_feed 8 = .ok (.iconst (-1), 1) := by decide +kernel
theorem dX5_feed_9 : decode cX5_feed 9 = .ok (.ireturn, 1) := by decide +kernel
theorem dX5_feed_10 : decode cX5_feed 10 = .ok (.aload_n 0, 1) := by decide +kernel
theorem dX5_feed_11 : decode cX5_feed 11 = .ok (.getfield 42, 3) := by decide +kernel
theorem dX5_feed_14 : decode cX5_feed 14 = .ok (.getfield 137, 3) := by decide +kernel
theorem dX5_feed_17 : decode cX5_feed 17 = .ok (.bipush 48, 2) := by decide +kernel
theorem dX5_feed_19 : decode cX5_feed 19 = .ok (.if_icmp .ne 6, 3) := by decide +kernel
theorem dX5_feed_22 : decode cX5_feed 22 = .ok (.bipush (-3), 2) := by decide +kernel
theorem dX5_feed_24 : decode cX5_feed 24 = .ok (.ireturn, 1) := by decide +kernel
theorem dX5_feed_25 : decode cX5_feed 25 = .ok (.aload_n 0, 1) := by decide +kernel
theorem dX5_feed_26 : decode cX5_feed 26 = .ok (.getfield 42, 3) := by decide +kernel
theorem dX5_feed_29 : decode cX5_feed 29 = .ok (.iload_n 1, 1) := by decide +kernel
theorem dX5_feed_30 : decode cX5_feed 30 = .ok (.invokevirtual 215, 3) := by decide +kernel
theorem dX5_feed_33 : decode cX5_feed 33 = .ok (.aload_n 0, 1) := by decide +kernel
theorem dX5_feed_34 : decode cX5_feed 34 = .ok (.getfield 42, 3) := by decide +kernel
theorem dX5_feed_37 : decode cX5_feed 37 = .ok (.getfield 137, 3) := by decide +kernel
theorem dX5_feed_40 : decode cX5_feed 40 = .ok (.ireturn, 1) := by decide +kernel
theorem dX5_clear_0 : decode cX5_clear 0 = .ok (.aload_n 0, 1) := by decide +kernel
theorem dX5_clear_1 : decode cX5_clear 1 = .ok (.getfield 42, 3) := by decide +kernel
theorem dX5_clear_4 : decode cX5_clear 4 = .ok (.getfield 137, 3) := by decide +kernel
theorem dX5_clear_7 : decode cX5_clear 7 = .ok (.istore_n 1, 1) := by decide +kernel
theorem dX5_clear_8 : decode cX5_clear 8 = .ok (.aload_n 0, 1) := by decide +kernel
theorem dX5_clear_9 : decode cX5_clear 9 = .ok (.getfield 42, 3) := by decide +kernel
theorem dX5_clear_12 : decode cX5_clear 12 = .ok (.iconst 0, 1) := by decide +kernel
theorem dX5_clear_13 : decode cX5_clear 13 = .ok (.putfield 137, 3) := by decide +kernel
theorem dX5_clear_16 : decode cX5_clear 16 = .ok (.iload_n 1, 1) := by decide +kernel
theorem dX5_clear_17 : decode cX5_clear 17 = .ok (.ireturn, 1) := by decide +kernel
theorem dX5_find_0 : decode cX5_find 0 = .ok (.aload_n 0, 1) := by decide +kernel
theorem dX5_find_1 : decode cX5_find 1 = .ok (.getfield 12, 3) := by decide +kernel
theorem dX5_find_4 : decode cX5_find 4 = .ok (.aload_n 0, 1) := by decide +kernel
theorem dX5_find_5 : decode cX5_find 5 = .ok (.getfield 42, 3) := by decide +kernel
theorem dX5_find_8 : decode cX5_find 8 = .ok (.getfield 138, 3) := by decide +kernel
theorem dX5_find_11 : decode cX5_find 11 = .ok (.iconst 0, 1) := by decide +kernel
theorem dX5_find_12 : decode cX5_find 12 = .ok (.aload_n 0, 1) := by decide +kernel
theorem dX5_find_13 : decode cX5_find 13 = .ok (.getfield 42, 3) := by decide +kernel
theorem dX5_find_16 : decode cX5_find 16 = .ok (.getfield 137, 3) := by decide +kernel
theorem dX5_find_19 : decode cX5_find 19 = .ok (.invokevirtual 151, 3) := by decide +kernel
theorem dX5_find_22 : decode cX5_find 22 = .ok (.istore_n 1, 1) := by decide +kernel
theorem dX5_find_23 : decode cX5_find 23 = .ok (.iload_n 1, 1) := by decide +kernel
theorem dX5_find_24 : decode cX5_find 24 = .ok (.iconst (-1), 1) := by decide +kernel
theorem dX5_find_25 : decode cX5_find 25 = .ok (.if_icmp .ne 8, 3) := by decide +kernel
theorem dX5_find_28 : decode cX5_find 28 = .ok (.bipush (-4), 2) := by decide +kernel
theorem dX5_find_30 : decode cX5_find 30 = .ok (.goto 4, 3) := by decide +kernel
theorem dX5_find_33 : decode cX5_find 33 = .ok (.iload_n 1, 1) := by decide +kernel
theorem dX5_find_34 : decode cX5_find 34 = .ok (.ireturn, 1) := by decide +kernel
theorem dX5_times_0 : decode cX5_times 0 = .ok (.aload_n 0, 1) := by decide +kernel
theorem dX5_times_1 : decode cX5_times 1 = .ok (.getfield 42, 3) := by decide +kernel
theorem dX5_times_4 : decode cX5_times 4 = .ok (.getfield 137, 3) := by decide +kernel
theorem dX5_times_7 : decode cX5_times 7 = .ok (.ifCond .ne 7, 3) := by decide +kernel
theorem dX5_times_10 : decode cX5_times 10 = .ok (.iconst 0, 1) := by decide +kernel
theorem dX5_times_11 : decode cX5_times 11 = .ok (.goto 25, 3) := by decide +kernel
theorem dX5_times_14 : decode cX5_times 14 = .ok (.aload_n 0, 1) := by decide +kernel
theorem dX5_times_15 : decode cX5_times 15 = .ok (.getfield 12, 3) := by decide +kernel
theorem dX5_times_18 : decode cX5_times 18 = .ok (.aload_n 0, 1) := by decide +kernel
theorem dX5_times_19 : decode cX5_times 19 = .ok (.getfield 42, 3) := by decide +kernel
theorem dX5_times_22 : decode cX5_times 22 = .ok (.getfield 138, 3) := by decide +kernel
theorem dX5_times_25 : decode cX5_times 25 = .ok (.iconst 0, 1) := by decide +kernel
theorem dX5_times_26 : decode cX5_times 26 = .ok (.aload_n 0, 1) := by decide +kernel
theorem dX5_times_27 : decode cX5_times 27 = .ok (.getfield 42, 3) := by decide +kernel
theorem dX5_times_30 : decode cX5_times 30 = .ok (.getfield 137, 3) := by decide +kernel
theorem dX5_times_33 : decode cX5_times 33 = .ok (.invokevirtual 110, 3) := by decide +kernel
theorem dX5_times_36 : decode cX5_times 36 = .ok (.ireturn, 1) := by decide +kernel
theorem dX5_sheet_0 : decode cX5_sheet 0 = .ok (.iload_n 1, 1) := by decide +kernel
theorem dX5_sheet_1 : decode cX5_sheet 1 = .ok (.invokestatic 218, 3) := by decide +kernel
theorem dX5_sheet_4 : decode cX5_sheet 4 = .ok (.ifCond .eq 16, 3) := by decide +kernel
theorem dX5_sheet_7 : decode cX5_sheet 7 = .ok (.iload_n 2, 1) := by decide +kernel
theorem dX5_sheet_8 : decode cX5_sheet 8 = .ok (.invokestatic 221, 3) := by decide +kernel
theorem dX5_sheet_11 : decode cX5_sheet 11 = .ok (.ifCond .eq 9, 3) := by decide +kernel
theorem dX5_sheet_14 : decode cX5_sheet 14 = .ok (.iload_n 3, 1) := by decide +kernel
theorem dX5_sheet_15 : decode cX5_sheet 15 = .ok (.bipush 48, 2) := by decide +kernel
theorem dX5_sheet_17 : decode cX5_sheet 17 = .ok (.if_icmp .le 5, 3) := by decide +kernel
theorem dX5_sheet_20 : decode cX5_sheet 20 = .ok (.iconst (-1), 1) := by decide +kernel
theorem dX5_sheet_21 : decode cX5_sheet 21 = .ok (.ireturn, 1) := by decide +kernel
theorem dX5_sheet_22 : decode cX5_sheet 22 = .ok (.iload_n 3, 1) := by decide +kernel
theorem dX5_sheet_23 : decode cX5_sheet 23 = .ok (.ifCond .ge 6, 3) := by decide +kernel
theorem dX5_sheet_26 : decode cX5_sheet 26 = .ok (.bipush (-14), 2) := by decide +kernel
theorem dX5_sheet_28 : decode cX5_sheet 28 = .ok (.ireturn, 1) := by decide +kernel
theorem dX5_sheet_29 : decode cX5_sheet 29 = .ok (.aload_n 0, 1) := by decide +kernel
theorem dX5_sheet_30 : decode cX5_sheet 30 = .ok (.getfield 48, 3) := by decide +kernel
theorem dX5_sheet_33 : decode cX5_sheet 33 = .ok (.iload_n 1, 1) := by decide +kernel
theorem dX5_sheet_34 : decode cX5_sheet 34 = .ok (.aaload, 1) := by decide +kernel
theorem dX5_sheet_35 : decode cX5_sheet 35 = .ok (.iload_n 2, 1) := by decide +kernel
theorem dX5_sheet_36 : decode cX5_sheet 36 = .ok (.iload_n 3, 1) := by decide +kernel
theorem dX5_sheet_37 : decode cX5_sheet 37 = .ok (.invokevirtual 224, 3) := by decide +kernel
theorem dX5_sheet_40 : decode cX5_sheet 40 = .ok (.iload_n 3, 1) := by decide +kernel
theorem dX5_sheet_41 : decode cX5_sheet 41 = .ok (.ireturn, 1) := by decide +kernel
theorem dX5_drop_0 : decode cX5_drop 0 = .ok (.iload_n 1, 1) := by decide +kernel
theorem dX5_drop_1 : decode cX5_drop 1 = .ok (.invokestatic 218, 3) := by decide +kernel
theorem dX5_drop_4 : decode cX5_drop 4 = .ok (.ifCond .ne 5, 3) := by decide +kernel
theorem dX5_drop_7 : decode cX5_drop 7 = .ok (.iconst (-1), 1) := by decide +kernel
theorem dX5_drop_8 : decode cX5_drop 8 = .ok (.ireturn, 1) := by decide +kernel
theorem dX5_drop_9 : decode cX5_drop 9 = .ok (.aload_n 0, 1) := by decide +kernel
theorem dX5_drop_10 : decode cX5_drop 10 = .ok (.getfield 48, 3) := by decide +kernel
theorem dX5_drop_13 : decode cX5_drop 13 = .ok (.iload_n 1, 1) := by decide +kernel
theorem dX5_drop_14 : decode cX5_drop 14 = .ok (.aaload, 1) := by decide +kernel
theorem dX5_drop_15 : decode cX5_drop 15 = .ok (.getfield 227, 3) := by decide +kernel
theorem dX5_drop_18 : decode cX5_drop 18 = .ok (.istore_n 2, 1) := by decide +kernel
theorem dX5_drop_19 : decode cX5_drop 19 = .ok (.iload_n 2, 1) := by decide +kernel
theorem dX5_drop_20 : decode cX5_drop 20 = .ok (.iconst (-1), 1) := by decide +kernel
theorem dX5_drop_21 : decode cX5_drop 21 = .ok (.if_icmp .ne 6, 3) := by decide +kernel
theorem dX5_drop_24 : decode cX5_drop 24 = .ok (.bipush (-11), 2) := by decide +kernel
theorem dX5_drop_26 : decode cX5_drop 26 = .ok (.ireturn, 1) := by decide +kernel
theorem dX5_drop_27 : decode cX5_drop 27 = .ok (.aload_n 0, 1) := by decide +kernel
theorem dX5_drop_28 : decode cX5_drop 28 = .ok (.getfield 48, 3) := by decide +kernel
theorem dX5_drop_31 : decode cX5_drop 31 = .ok (.iload_n 1, 1) := by decide +kernel
theorem dX5_drop_32 : decode cX5_drop 32 = .ok (.aaload, 1) := by decide +kernel
theorem dX5_drop_33 : decode cX5_drop 33 = .ok (.iconst (-1), 1) := by decide +kernel
theorem dX5_drop_34 : decode cX5_drop 34 = .ok (.putfield 227, 3) := by decide +kernel
theorem dX5_drop_37 : decode cX5_drop 37 = .ok (.iload_n 2, 1) := by decide +kernel
theorem dX5_drop_38 : decode cX5_drop 38 = .ok (.ireturn, 1) := by decide +kernel
theorem dX5_item_0 : decode cX5_item 0 = .ok (.iload_n 1, 1) := by decide +kernel
theorem dX5_item_1 : decode cX5_item 1 = .ok (.invokestatic 218, 3) := by decide +kernel
theorem dX5_item_4 : decode cX5_item 4 = .ok (.ifCond .eq 10, 3) := by decide +kernel
theorem dX5_item_7 : decode cX5_item 7 = .ok (.iload_n 2, 1) := by decide +kernel
theorem dX5_item_8 : decode cX5_item 8 = .ok (.invokestatic 221, 3) := by decide +kernel
theorem dX5_item_11 : decode cX5_item 11 = .ok (.ifCond .ne 7, 3) := by decide +kernel
theorem dX5_item_14 : decode cX5_item 14 = .ok (.ldc2_w 228, 3) := by decide +kernel
theorem dX5_item_17 : decode cX5_item 17 = .ok (.lreturn, 1) := by decide +kernel
theorem dX5_item_18 : decode cX5_item 18 = .ok (.aload_n 0, 1) := by decide +kernel
theorem dX5_item_19 : decode cX5_item 19 = .ok (.getfield 48, 3) := by decide +kernel
theorem dX5_item_22 : decode cX5_item 22 = .ok (.iload_n 1, 1) := by decide +kernel
theorem dX5_item_23 : decode cX5_item 23 = .ok (.aaload, 1) := by decide +kernel
theorem dX5_item_24 : decode cX5_item 24 = .ok (.iload_n 2, 1) := by decide +kernel
theorem dX5_item_25 : decode cX5_item 25 = .ok (.iload_n 3, 1) := by decide +kernel
theorem dX5_item_26 : decode cX5_item 26 = .ok (.iconst 1, 1) := by decide +kernel
theorem dX5_item_27 : decode cX5_item 27 = .ok (.invokevirtual 230, 3) := by decide +kernel
theorem dX5_item_30 : decode cX5_item 30 = .ok (.istore 6, 2) := by decide +kernel
theorem dX5_item_32 : decode cX5_item 32 = .ok (.iload 6, 2) := by decide +kernel
theorem dX5_item_34 : decode cX5_item 34 = .ok (.ifCond .eq 7, 3) := by decide +kernel
theorem dX5_item_37 : decode cX5_item 37 = .ok (.iload 6, 2) := by decide +kernel
theorem dX5_item_39 : decode cX5_item 39 = .ok (.i2l, 1) := by decide +kernel
theorem dX5_item_40 : decode cX5_item 40 = .ok (.lreturn, 1) := by decide +kernel
theorem dX5_item_41 : decode cX5_item 41 = .ok (.aload_n 0, 1) := by decide +kernel
theorem dX5_item_42 : decode cX5_item 42 = .ok (.getfield 48, 3) := by decide +kernel
theorem dX5_item_45 : decode cX5_item 45 = .ok (.iload_n 1, 1) := by decide +kernel
theorem dX5_item_46 : decode cX5_item 46 = .ok (.aaload, 1) := by decide +kernel
theorem dX5_item_47 : decode cX5_item 47 = .ok (.iload_n 3, 1) := by decide +kernel
theorem dX5_item_48 : decode cX5_item 48 = .ok (.lload 4, 2) := by decide +kernel
theorem dX5_item_50 : decode cX5_item 50 = .ok (.invokevirtual 234, 3) := by decide +kernel
theorem dX5_item_53 : decode cX5_item 53 = .ok (.lreturn, 1) := by decide +kernel
theorem dX5_copy_0 : decode cX5_copy 0 = .ok (.iload_n 1, 1) := by decide +kernel
theorem dX5_copy_1 : decode cX5_copy 1 = .ok (.invokestatic 218, 3) := by decide +kernel
theorem dX5_copy_4 : decode cX5_copy 4 = .ok (.ifCond .eq 10, 3) := by decide +kernel
theorem dX5_copy_7 : decode cX5_copy 7 = .ok (.iload_n 3, 1) := by decide +kernel
theorem dX5_copy_8 : decode cX5_copy 8 = .ok (.invokestatic 218, 3) := by decide +kernel
theorem dX5_copy_11 : decode cX5_copy 11 = .ok (.ifCond .ne 5, 3) := by decide +kernel
theorem dX5_copy_14 : decode cX5_copy 14 = .ok (.iconst (-1), 1) := by decide +kernel
theorem dX5_copy_15 : decode cX5_copy 15 = .ok (.ireturn, 1) := by decide +kernel
theorem dX5_copy_16 : decode cX5_copy 16 = .ok (.aload_n 0, 1) := by decide +kernel
theorem dX5_copy_17 : decode cX5_copy 17 = .ok (.getfield 48, 3) := by decide +kernel
theorem dX5_copy_20 : decode cX5_copy 20 = .ok (.iload_n 1, 1) := by decide +kernel
theorem dX5_copy_21 : decode cX5_copy 21 = .ok (.aaload, 1) := by decide +kernel
theorem dX5_copy_22 : decode cX5_copy 22 = .ok (.astore 6, 2) := by decide +kernel
theorem dX5_copy_24 : decode cX5_copy 24 = .ok (.aload_n 0, 1) := by decide +kernel
theorem dX5_copy_25 : decode cX5_copy 25 = .ok (.getfield 48, 3) := by decide +kernel
theorem dX5_copy_28 : decode cX5_copy 28 = .ok (.iload_n 3, 1) := by decide +kernel
theorem dX5_copy_29 : decode cX5_copy 29 = .ok (.aaload, 1) := by decide +kernel
theorem dX5_copy_30 : decode cX5_copy 30 = .ok (.astore 7, 2) := by decide +kernel
theorem dX5_copy_32 : decode cX5_copy 32 = .ok (.aload 6, 2) := by decide +kernel
theorem dX5_copy_34 : decode cX5_copy 34 = .ok (.getfield 227, 3) := by decide +kernel
theorem dX5_copy_37 : decode cX5_copy 37 = .ok (.iconst (-1), 1) := by decide +kernel
theorem dX5_copy_38 : decode cX5_copy 38 = .ok (.if_icmp .eq 12, 3) := by decide +kernel
theorem dX5_copy_41 : decode cX5_copy 41 = .ok (.aload 7, 2) := by decide +kernel
theorem dX5_copy_43 : decode cX5_copy 43 = .ok (.getfield 227, 3) := by decide +kernel
theorem dX5_copy_46 : decode cX5_copy 46 = .ok (.iconst (-1), 1) := by decide +kernel
theorem dX5_copy_47 : decode cX5_copy 47 = .ok (.if_icmp .ne 6, 3) := by decide +kernel
theorem dX5_copy_50 : decode cX5_copy 50 = .ok (.bipush (-11), 2) := by decide +kernel
theorem dX5_copy_52 : decode cX5_copy 52 = .ok (.ireturn, 1) := by decide +kernel
theorem dX5_copy_53 : decode cX5_copy 53 = .ok (.aload 7, 2) := by decide +kernel
theorem dX5_copy_55 : decode cX5_copy 55 = .ok (.aload 6, 2) := by decide +kernel
theorem dX5_copy_57 : decode cX5_copy 57 = .ok (.getfield 238, 3) := by decide +kernel
theorem dX5_copy_60 : decode cX5_copy 60 = .ok (.iload 4, 2) := by decide +kernel
theorem dX5_copy_62 : decode cX5_copy 62 = .ok (.iload 5, 2) := by decide +kernel
theorem dX5_copy_64 : decode cX5_copy 64 = .ok (.invokevirtual 230, 3) := by decide +kernel
theorem dX5_copy_67 : decode cX5_copy 67 = .ok (.istore 8, 2) := by decide +kernel
theorem dX5_copy_69 : decode cX5_copy 69 = .ok (.iload 8, 2) := by decide +kernel
theorem dX5_copy_71 : decode cX5_copy 71 = .ok (.ifCond .ne 18, 3) := by decide +kernel
theorem dX5_copy_74 : decode cX5_copy 74 = .ok (.aload 6, 2) := by decide +kernel
theorem dX5_copy_76 : decode cX5_copy 76 = .ok (.aload 6, 2) := by decide +kernel
theorem dX5_copy_78 : decode cX5_copy 78 = .ok (.getfield 238, 3) := by decide +kernel
theorem dX5_copy_81 : decode cX5_copy 81 = .ok (.iload_n 2, 1) := by decide +kernel
theorem dX5_copy_82 : decode cX5_copy 82 = .ok (.iload 5, 2) := by decide +kernel
theorem dX5_copy_84 : decode cX5_copy 84 = .ok (.invokevirtual 230, 3) := by decide +kernel
theorem dX5_copy_87 : decode cX5_copy 87 = .ok (.istore 8, 2) := by decide +kernel
theorem dX5_copy_89 : decode cX5_copy 89 = .ok (.iload 8, 2) := by decide +kernel
theorem dX5_copy_91 : decode cX5_copy 91 = .ok (.ifCond .eq 6, 3) := by decide +kernel
theorem dX5_copy_94 : decode cX5_copy 94 = .ok (.iload 8, 2) := by decide +kernel
theorem dX5_copy_96 : decode cX5_copy 96 = .ok (.ireturn, 1) := by decide +kernel
theorem dX5_copy_97 : decode cX5_copy 97 = .ok (.aload 6, 2) := by decide +kernel
theorem dX5_copy_99 : decode cX5_copy 99 = .ok (.getfield 241, 3) := by decide +kernel
theorem dX5_copy_102 : decode cX5_copy 102 = .ok (.iload_n 2, 1) := by decide +kernel
theorem dX5_copy_103 : decode cX5_copy 103 = .ok (.aload 7, 2) := by decide +kernel
theorem dX5_copy_105 : decode cX5_copy 105 = .ok (.getfield 241, 3) := by decide +kernel
theorem dX5_copy_108 : decode cX5_copy 108 = .ok (.iload 4, 2) := by decide +kernel
theorem dX5_copy_110 : decode cX5_copy 110 = .ok (.iload 5, 2) := by decide +kernel
theorem dX5_copy_112 : decode cX5_copy 112 = .ok (.invokestatic 245, 3) := by decide +kernel
theorem dX5_copy_115 : decode cX5_copy 115 = .ok (.iload 5, 2) := by decide +kernel
theorem dX5_copy_117 : decode cX5_copy 117 = .ok (.ireturn, 1) := by decide +kernel
theorem dX5_spell_0 : decode cX5_spell 0 = .ok (.aload_n 0, 1) := by decide +kernel
theorem dX5_spell_1 : decode cX5_spell 1 = .ok (.iload_n 1, 1) := by decide +kernel
theorem dX5_spell_2 : decode cX5_spell 2 = .ok (.invokevirtual 98, 3) := by decide +kernel
theorem dX5_spell_5 : decode cX5_spell 5 = .ok (.ifCond .eq 17, 3) := by decide +kernel
theorem dX5_spell_8 : decode cX5_spell 8 = .ok (.iload_n 2, 1) := by decide +kernel
theorem dX5_spell_9 : decode cX5_spell 9 = .ok (.invokestatic 218, 3) := by decide +kernel
theorem dX5_spell_12 : decode cX5_spell 12 = .ok (.ifCond .eq 10, 3) := by decide +kernel
theorem dX5_spell_15 : decode cX5_spell 15 = .ok (.iload_n 3, 1) := by decide +kernel
theorem dX5_spell_16 : decode cX5_spell 16 = .ok (.invokestatic 221, 3) := by decide +kernel
theorem dX5_spell_19 : decode cX5_spell 19 = .ok (.ifCond .ne 5, 3) := by decide +kernel
theorem dX5_spell_22 : decode cX5_spell 22 = .ok (.iconst (-1), 1) := by decide +kernel
theorem dX5_spell_23 : decode cX5_spell 23 = .ok (.ireturn, 1) := by decide +kernel
theorem dX5_spell_24 : decode cX5_spell 24 = .ok (.aload_n 0, 1) := by decide +kernel
theorem dX5_spell_25 : decode cX5_spell 25 = .ok (.getfield 12, 3) := by decide +kernel
theorem dX5_spell_28 : decode cX5_spell 28 = .ok (.getfield 101, 3) := by decide +kernel
theorem dX5_spell_31 : decode cX5_spell 31 = .ok (.iload_n 1, 1) := by decide +kernel
theorem dX5_spell_32 : decode cX5_spell 32 = .ok (.iaload, 1) := by decide +kernel
theorem dX5_spell_33 : decode cX5_spell 33 = .ok (.istore 5, 2) := by decide +kernel
theorem dX5_spell_35 : decode cX5_spell 35 = .ok (.aload_n 0, 1) := by decide +kernel
theorem dX5_spell_36 : decode cX5_spell 36 = .ok (.getfield 48, 3) := by decide +kernel
theorem dX5_spell_39 : decode cX5_spell 39 = .ok (.iload_n 2, 1) := by decide +kernel
theorem dX5_spell_40 : decode cX5_spell 40 = .ok (.aaload, 1) := by decide +kernel
theorem dX5_spell_41 : decode cX5_spell 41 = .ok (.iload_n 3, 1) := by decide +kernel
theorem dX5_spell_42 : decode cX5_spell 42 = .ok (.iload 4, 2) := by decide +kernel
theorem dX5_spell_44 : decode cX5_spell 44 = .ok (.iload 5, 2) := by decide +kernel
theorem dX5_spell_46 : decode cX5_spell 46 = .ok (.invokevirtual 230, 3) := by decide +kernel
theorem dX5_spell_49 : decode cX5_spell 49 = .ok (.istore 6, 2) := by decide +kernel
theorem dX5_spell_51 : decode cX5_spell 51 = .ok (.iload 6, 2) := by decide +kernel
theorem dX5_spell_53 : decode cX5_spell 53 = .ok (.ifCond .eq 6, 3) := by decide +kernel
theorem dX5_spell_56 : decode cX5_spell 56 = .ok (.iload 6, 2) := by decide +kernel
theorem dX5_spell_58 : decode cX5_spell 58 = .ok (.ireturn, 1) := by decide +kernel
theorem dX5_spell_59 : decode cX5_spell 59 = .ok (.aload_n 0, 1) := by decide +kernel
theorem dX5_spell_60 : decode cX5_spell 60 = .ok (.getfield 12, 3) := by decide +kernel
theorem dX5_spell_63 : decode cX5_spell 63 = .ok (.iload_n 1, 1) := by decide +kernel
theorem dX5_spell_64 : decode cX5_spell 64 = .ok (.invokevirtual 104, 3) := by decide +kernel
theorem dX5_spell_67 : decode cX5_spell 67 = .ok (.istore 7, 2) := by decide +kernel
theorem dX5_spell_69 : decode cX5_spell 69 = .ok (.iconst 0, 1) := by decide +kernel
theorem dX5_spell_70 : decode cX5_spell 70 = .ok (.istore 8, 2) := by decide +kernel
theorem dX5_spell_72 : decode cX5_spell 72 = .ok (.iload 8, 2) := by decide +kernel
theorem dX5_spell_74 : decode cX5_spell 74 = .ok (.iload 5, 2) := by decide +kernel
theorem dX5_spell_76 : decode cX5_spell 76 = .ok (.if_icmp .ge 38, 3) := by decide +kernel
theorem dX5_spell_79 : decode cX5_spell 79 = .ok (.aload_n 0, 1) := by decide +kernel
theorem dX5_spell_80 : decode cX5_spell 80 = .ok (.getfield 48, 3) := by decide +kernel
theorem dX5_spell_83 : decode cX5_spell 83 = .ok (.iload_n 2, 1) := by decide +kernel
theorem dX5_spell_84 : decode cX5_spell 84 = .ok (.aaload, 1) := by decide +kernel
theorem dX5_spell_85 : decode cX5_spell 85 = .ok (.iload 4, 2) := by decide +kernel
theorem dX5_spell_87 : decode cX5_spell 87 = .ok (.iload 8, 2) := by decide +kernel
theorem dX5_spell_89 : decode cX5_spell 89 = .ok (.iadd, 1) := by decide +kernel
theorem dX5_spell_90 : decode cX5_spell 90 = .ok (.aload_n 0, 1) := by decide +kernel
theorem dX5_spell_91 : decode cX5_spell 91 = .ok (.getfield 12, 3) := by decide +kernel
theorem dX5_spell_94 : decode cX5_spell 94 = .ok (.getfield 86, 3) := by decide +kernel
theorem dX5_spell_97 : decode cX5_spell 97 = .ok (.iload 7, 2) := by decide +kernel
theorem dX5_spell_99 : decode cX5_spell 99 = .ok (.iload 8, 2) := by decide +kernel
theorem dX5_spell_101 : decode cX5_spell 101 = .ok (.iadd, 1) := by decide +kernel
theorem dX5_spell_102 : decode cX5_spell 102 = .ok (.iaload, 1) := by decide +kernel
theorem dX5_spell_103 : decode cX5_spell 103 = .ok (.i2l, 1) := by decide +kernel
theorem dX5_spell_104 : decode cX5_spell 104 = .ok (.invokevirtual 234, 3) := by decide +kernel
theorem dX5_spell_107 : decode cX5_spell 107 = .ok (.pop2, 1) := by decide +kernel
theorem dX5_spell_108 : decode cX5_spell 108 = .ok (.iinc 8 1, 3) := by decide +kernel
theorem dX5_spell_111 : decode cX5_spell 111 = .ok (.goto (-39), 3) := by decide +kernel
theorem dX5_spell_114 : decode cX5_spell 114 = .ok (.iload 5, 2) := by decide +kernel
theorem dX5_spell_116 : decode cX5_spell 116 = .ok (.ireturn, 1) := by decide +kernel
theorem dX5_read_0 : decode cX5_read 0 = .ok (.iload_n 1, 1) := by decide +kernel
theorem dX5_read_1 : decode cX5_read 1 = .ok (.invokestatic 218, 3) := by decide +kernel
theorem dX5_read_4 : decode cX5_read 4 = .ok (.ifCond .eq 21, 3) := by decide +kernel
theorem dX5_read_7 : decode cX5_read 7 = .ok (.iload_n 2, 1) := by decide +kernel
theorem dX5_read_8 : decode cX5_read 8 = .ok (.invokestatic 221, 3) := by decide +kernel
theorem dX5_read_11 : decode cX5_read 11 = .ok (.ifCond .eq 14, 3) := by decide +kernel
theorem dX5_read_14 : decode cX5_read 14 = .ok (.iload 4, 2) := by decide +kernel
theorem dX5_read_16 : decode cX5_read 16 = .ok (.iconst 0, 1) := by decide +kernel
theorem dX5_read_17 : decode cX5_read 17 = .ok (.bipush 48, 2) := by decide +kernel
theorem dX5_read_19 : decode cX5_read 19 = .ok (.invokestatic 129, 3) := by decide +kernel
theorem dX5_read_22 : decode cX5_read 22 = .ok (.ifCond .ne 5, 3) := by decide +kernel
theorem dX5_read_25 : decode cX5_read 25 = .ok (.iconst (-1), 1) := by decide +kernel
theorem dX5_read_26 : decode cX5_read 26 = .ok (.ireturn, 1) := by decide +kernel
theorem dX5_read_27 : decode cX5_read 27 = .ok (.aload_n 0, 1) := by decide +kernel
theorem dX5_read_28 : decode cX5_read 28 = .ok (.getfield 48, 3) := by decide +kernel
theorem dX5_read_31 : decode cX5_read 31 = .ok (.iload_n 1, 1) := by decide +kernel
theorem dX5_read_32 : decode cX5_read 32 = .ok (.aaload, 1) := by decide +kernel
theorem dX5_read_33 : decode cX5_read 33 = .ok (.astore 5, 2) := by decide +kernel
theorem dX5_read_35 : decode cX5_read 35 = .ok (.aload 5, 2) := by decide +kernel
theorem dX5_read_37 : decode cX5_read 37 = .ok (.iload_n 2, 1) := by decide +kernel
theorem dX5_read_38 : decode cX5_read 38 = .ok (.iload_n 3, 1) := by decide +kernel
theorem dX5_read_39 : decode cX5_read 39 = .ok (.iload 4, 2) := by decide +kernel
theorem dX5_read_41 : decode cX5_read 41 = .ok (.invokevirtual 230, 3) := by decide +kernel
theorem dX5_read_44 : decode cX5_read 44 = .ok (.istore 6, 2) := by decide +kernel
theorem dX5_read_46 : decode cX5_read 46 = .ok (.iload 6, 2) := by decide +kernel
theorem dX5_read_48 : decode cX5_read 48 = .ok (.ifCond .eq 6, 3) := by decide +kernel
theorem dX5_read_51 : decode cX5_read 51 = .ok (.iload 6, 2) := by decide +kernel
theorem dX5_read_53 : decode cX5_read 53 = .ok (.ireturn, 1) := by decide +kernel
theorem dX5_read_54 : decode cX5_read 54 = .ok (.aload 5, 2) := by decide +kernel
theorem dX5_read_56 : decode cX5_read 56 = .ok (.iload_n 3, 1) := by decide +kernel
theorem dX5_read_57 : decode cX5_read 57 = .ok (.iload 4, 2) := by decide +kernel
theorem dX5_read_59 : decode cX5_read 59 = .ok (.invokevirtual 251, 3) := by decide +kernel
theorem dX5_read_62 : decode cX5_read 62 = .ok (.ifCond .ne 6, 3) := by decide +kernel
theorem dX5_read_65 : decode cX5_read 65 = .ok (.bipush (-2), 2) := by decide +kernel
theorem dX5_read_67 : decode cX5_read 67 = .ok (.ireturn, 1) := by decide +kernel
theorem dX5_read_68 : decode cX5_read 68 = .ok (.aload_n 0, 1) := by decide +kernel
theorem dX5_read_69 : decode cX5_read 69 = .ok (.getfield 42, 3) := by decide +kernel
theorem dX5_read_72 : decode cX5_read 72 = .ok (.getfield 137, 3) := by decide +kernel
theorem dX5_read_75 : decode cX5_read 75 = .ok (.iload 4, 2) := by decide +kernel
theorem dX5_read_77 : decode cX5_read 77 = .ok (.iadd, 1) := by decide +kernel
theorem dX5_read_78 : decode cX5_read 78 = .ok (.bipush 48, 2) := by decide +kernel
theorem dX5_read_80 : decode cX5_read 80 = .ok (.if_icmp .le 6, 3) := by decide +kernel
theorem dX5_read_83 : decode cX5_read 83 = .ok (.bipush (-3), 2) := by decide +kernel
theorem dX5_read_85 : decode cX5_read 85 = .ok (.ireturn, 1) := by decide +kernel
theorem dX5_read_86 : decode cX5_read 86 = .ok (.iconst 0, 1) := by decide +kernel
theorem dX5_read_87 : decode cX5_read 87 = .ok (.istore 7, 2) := by decide +kernel
theorem dX5_read_89 : decode cX5_read 89 = .ok (.iload 7, 2) := by decide +kernel
theorem dX5_read_91 : decode cX5_read 91 = .ok (.iload 4, 2) := by decide +kernel
theorem dX5_read_93 : decode cX5_read 93 = .ok (.if_icmp .ge 27, 3) := by decide +kernel
theorem dX5_read_96 : decode cX5_read 96 = .ok (.aload_n 0, 1) := by decide +kernel
theorem dX5_read_97 : decode cX5_read 97 = .ok (.getfield 42, 3) := by decide +kernel
theorem dX5_read_100 : decode cX5_read 100 = .ok (.aload 5, 2) := by decide +kernel
theorem dX5_read_102 : decode cX5_read 102 = .ok (.getfield 241, 3) := by decide +kernel
theorem dX5_read_105 : decode cX5_read 105 = .ok (.iload_n 3, 1) := by decide +kernel
theorem dX5_read_106 : decode cX5_read 106 = .ok (.iload 7, 2) := by decide +kernel
theorem dX5_read_108 : decode cX5_read 108 = .ok (.iadd, 1) := by decide +kernel
theorem dX5_read_109 : decode cX5_read 109 = .ok (.laload, 1) := by decide +kernel
theorem dX5_read_110 : decode cX5_read 110 = .ok (.l2i, 1) := by decide +kernel
theorem dX5_read_111 : decode cX5_read 111 = .ok (.invokevirtual 215, 3) := by decide +kernel
theorem dX5_read_114 : decode cX5_read 114 = .ok (.iinc 7 1, 3) := by decide +kernel
theorem dX5_read_117 : decode cX5_read 117 = .ok (.goto (-28), 3) := by decide +kernel
theorem dX5_read_120 : decode cX5_read 120 = .ok (.aload_n 0, 1) := by decide +kernel
theorem dX5_read_121 : decode cX5_read 121 = .ok (.getfield 42, 3) := by decide +kernel
theorem dX5_read_124 : decode cX5_read 124 = .ok (.getfield 137, 3) := by decide +kernel
theorem dX5_read_127 : decode cX5_read 127 = .ok (.ireturn, 1) := by decide +kernel
theorem dX5_count_0 : decode cX5_count 0 = .ok (.iload_n 1, 1) := by decide +kernel
theorem dX5_count_1 : decode cX5_count 1 = .ok (.tableswitch 145 0 7 #[47, 55, 63, 71, 79, 106, 129, 137], 47) := by decide +kernel
theorem dX5_count_48 : decode cX5_count 48 = .ok (.aload_n 0, 1) := by decide +kernel
theorem dX5_count_49 : decode cX5_count 49 = .ok (.getfield 12, 3) := by decide +kernel
theorem dX5_count_52 : decode cX5_count 52 = .ok (.getfield 64, 3) := by decide +kernel
theorem dX5_count_55 : decode cX5_count 55 = .ok (.ireturn, 1) := by decide +kernel
theorem dX5_count_56 : decode cX5_count 56 = .ok (.aload_n 0, 1) := by decide +kernel
theorem dX5_count_57 : decode cX5_count 57 = .ok (.getfield 12, 3) := by decide +kernel
theorem dX5_count_60 : decode cX5_count 60 = .ok (.getfield 148, 3) := by decide +kernel
theorem dX5_count_63 : decode cX5_count 63 = .ok (.ireturn, 1) := by decide +kernel
theorem dX5_count_64 : decode cX5_count 64 = .ok (.aload_n 0, 1) := by decide +kernel
theorem dX5_count_65 : decode cX5_count 65 = .ok (.getfield 12, 3) := by decide +kernel
theorem dX5_count_68 : decode cX5_count 68 = .ok (.invokevirtual 255, 3) := by decide +kernel
theorem dX5_count_71 : decode cX5_count 71 = .ok (.ireturn, 1) := by decide +kernel
theorem dX5_count_72 : decode cX5_count 72 = .ok (.aload_n 0, 1) := by decide +kernel
theorem dX5_count_73 : decode cX5_count 73 = .ok (.getfield 12, 3) := by decide +kernel
theorem dX5_count_76 : decode cX5_count 76 = .ok (.invokevirtual 258, 3) := by decide +kernel
theorem dX5_count_79 : decode cX5_count 79 = .ok (.ireturn, 1) := by decide +kernel
theorem dX5_count_80 : decode cX5_count 80 = .ok (.aload_n 0, 1) := by decide +kernel
theorem dX5_count_81 : decode cX5_count 81 = .ok (.getfield 12, 3) := by decide +kernel
theorem dX5_count_84 : decode cX5_count 84 = .ok (.invokevirtual 176, 3) := by decide +kernel
theorem dX5_count_87 : decode cX5_count 87 = .ok (.istore_n 2, 1) := by decide +kernel
theorem dX5_count_88 : decode cX5_count 88 = .ok (.iload_n 2, 1) := by decide +kernel
theorem dX5_count_89 : decode cX5_count 89 = .ok (.iconst (-1), 1) := by decide +kernel
theorem dX5_count_90 : decode cX5_count 90 = .ok (.if_icmp .ne 7, 3) := by decide +kernel
theorem dX5_count_93 : decode cX5_count 93 = .ok (.iconst 0, 1) := by decide +kernel
theorem dX5_count_94 : decode cX5_count 94 = .ok (.goto 12, 3) := by decide +kernel
theorem dX5_count_97 : decode cX5_count 97 = .ok (.aload_n 0, 1) := by decide +kernel
theorem dX5_count_98 : decode cX5_count 98 = .ok (.getfield 12, 3) := by decide +kernel
theorem dX5_count_101 : decode cX5_count 101 = .ok (.getfield 101, 3) := by decide +kernel
theorem dX5_count_104 : decode cX5_count 104 = .ok (.iload_n 2, 1) := by decide +kernel
theorem dX5_count_105 : decode cX5_count 105 = .ok (.iaload, 1) := by decide +kernel
theorem dX5_count_106 : decode cX5_count 106 = .ok (.ireturn, 1) := by decide +kernel
theorem dX5_count_107 : decode cX5_count 107 = .ok (.aload_n 0, 1) := by decide +kernel
theorem dX5_count_108 : decode cX5_count 108 = .ok (.getfield 12, 3) := by decide +kernel
theorem dX5_count_111 : decode cX5_count 111 = .ok (.getfield 148, 3) := by decide +kernel
theorem dX5_count_114 : decode cX5_count 114 = .ok (.aload_n 0, 1) := by decide +kernel
theorem dX5_count_115 : decode cX5_count 115 = .ok (.getfield 12, 3) := by decide +kernel
theorem dX5_count_118 : decode cX5_count 118 = .ok (.getfield 64, 3) := by decide +kernel
theorem dX5_count_121 : decode cX5_count 121 = .ok (.if_icmp .ne 7, 3) := by decide +kernel
theorem dX5_count_124 : decode cX5_count 124 = .ok (.iconst 1, 1) := by decide +kernel
theorem dX5_count_125 : decode cX5_count 125 = .ok (.goto 4, 3) := by decide +kernel
theorem dX5_count_128 : decode cX5_count 128 = .ok (.iconst 0, 1) := by decide +kernel
theorem dX5_count_129 : decode cX5_count 129 = .ok (.ireturn, 1) := by decide +kernel
theorem dX5_count_130 : decode cX5_count 130 = .ok (.aload_n 0, 1) := by decide +kernel
theorem dX5_count_131 : decode cX5_count 131 = .ok (.getfield 22, 3) := by decide +kernel
theorem dX5_count_134 : decode cX5_count 134 = .ok (.getfield 93, 3) := by decide +kernel
theorem dX5_count_137 : decode cX5_count 137 = .ok (.ireturn, 1) := by decide +kernel
theorem dX5_count_138 : decode cX5_count 138 = .ok (.aload_n 0, 1) := by decide +kernel
theorem dX5_count_139 : decode cX5_count 139 = .ok (.getfield 42, 3) := by decide +kernel
theorem dX5_count_142 : decode cX5_count 142 = .ok (.getfield 137, 3) := by decide +kernel
theorem dX5_count_145 : decode cX5_count 145 = .ok (.ireturn, 1) := by decide +kernel
theorem dX5_count_146 : decode cX5_count 146 = .ok (.iconst (-1), 1) := by decide +kernel
theorem dX5_count_147 : decode cX5_count 147 = .ok (.ireturn, 1) := by decide +kernel
theorem dX5_within_0 : decode cX5_within 0 = .ok (.iload_n 0, 1) := by decide +kernel
theorem dX5_within_1 : decode cX5_within 1 = .ok (.iload_n 1, 1) := by decide +kernel
theorem dX5_within_2 : decode cX5_within 2 = .ok (.if_icmp .lt 12, 3) := by decide +kernel
theorem dX5_within_5 : decode cX5_within 5 = .ok (.iload_n 0, 1) := by decide +kernel
theorem dX5_within_6 : decode cX5_within 6 = .ok (.iload_n 2, 1) := by decide +kernel
theorem dX5_within_7 : decode cX5_within 7 = .ok (.if_icmp .gt 7, 3) := by decide +kernel
theorem dX5_within_10 : decode cX5_within 10 = .ok (.iconst 1, 1) := by decide +kernel
theorem dX5_within_11 : decode cX5_within 11 = .ok (.goto 4, 3) := by decide +kernel
theorem dX5_within_14 : decode cX5_within 14 = .ok (.iconst 0, 1) := by decide +kernel
theorem dX5_within_15 : decode cX5_within 15 = .ok (.ireturn, 1) := by decide +kernel
theorem dX5_isLetter_0 : decode cX5_isLetter 0 = .ok (.iload_n 0, 1) := by decide +kernel
theorem dX5_isLetter_1 : decode cX5_isLetter 1 = .ok (.bipush 97, 2) := by decide +kernel
theorem dX5_isLetter_3 : decode cX5_isLetter 3 = .ok (.bipush 102, 2) := by decide +kernel
theorem dX5_isLetter_5 : decode cX5_isLetter 5 = .ok (.invokestatic 129, 3) := by decide +kernel
theorem dX5_isLetter_8 : decode cX5_isLetter 8 = .ok (.ireturn, 1) := by decide +kernel
theorem dX5_isByte_0 : decode cX5_isByte 0 = .ok (.lload_n 0, 1) := by decide +kernel
theorem dX5_isByte_1 : decode cX5_isByte 1 = .ok (.lconst 0, 1) := by decide +kernel
theorem dX5_isByte_2 : decode cX5_isByte 2 = .ok (.lcmp, 1) := by decide +kernel
theorem dX5_isByte_3 : decode cX5_isByte 3 = .ok (.ifCond .lt 15, 3) := by decide +kernel
theorem dX5_isByte_6 : decode cX5_isByte 6 = .ok (.lload_n 0, 1) := by decide +kernel
theorem dX5_isByte_7 : decode cX5_isByte 7 = .ok (.ldc2_w 261, 3) := by decide +kernel
theorem dX5_isByte_10 : decode cX5_isByte 10 = .ok (.lcmp, 1) := by decide +kernel
theorem dX5_isByte_11 : decode cX5_isByte 11 = .ok (.ifCond .gt 7, 3) := by decide +kernel
theorem dX5_isByte_14 : decode cX5_isByte 14 = .ok (.iconst 1, 1) := by decide +kernel
theorem dX5_isByte_15 : decode cX5_isByte 15 = .ok (.goto 4, 3) := by decide +kernel
theorem dX5_isByte_18 : decode cX5_isByte 18 = .ok (.iconst 0, 1) := by decide +kernel
theorem dX5_isByte_19 : decode cX5_isByte 19 = .ok (.ireturn, 1) := by decide +kernel
theorem dX5_isSheet_0 : decode cX5_isSheet 0 = .ok (.iload_n 0, 1) := by decide +kernel
theorem dX5_isSheet_1 : decode cX5_isSheet 1 = .ok (.iconst 0, 1) := by decide +kernel
theorem dX5_isSheet_2 : decode cX5_isSheet 2 = .ok (.iconst 3, 1) := by decide +kernel
theorem dX5_isSheet_3 : decode cX5_isSheet 3 = .ok (.invokestatic 129, 3) := by decide +kernel
theorem dX5_isSheet_6 : decode cX5_isSheet 6 = .ok (.ireturn, 1) := by decide +kernel
theorem dX5_isLane_0 : decode cX5_isLane 0 = .ok (.iload_n 0, 1) := by decide +kernel
theorem dX5_isLane_1 : decode cX5_isLane 1 = .ok (.iconst 0, 1) := by decide +kernel
theorem dX5_isLane_2 : decode cX5_isLane 2 = .ok (.iconst 3, 1) := by decide +kernel
theorem dX5_isLane_3 : decode cX5_isLane 3 = .ok (.invokestatic 129, 3) := by decide +kernel
theorem dX5_isLane_6 : decode cX5_isLane 6 = .ok (.ireturn, 1) := by decide +kernel
theorem dX5_isPlace_0 : decode cX5_isPlace 0 = .ok (.iload_n 1, 1) := by decide +kernel
theorem dX5_isPlace_1 : decode cX5_isPlace 1 = .ok (.iconst 0, 1) := by decide +kernel
theorem dX5_isPlace_2 : decode cX5_isPlace 2 = .ok (.aload_n 0, 1) := by decide +kernel
theorem dX5_isPlace_3 : decode cX5_isPlace 3 = .ok (.getfield 12, 3) := by decide +kernel
theorem dX5_isPlace_6 : decode cX5_isPlace 6 = .ok (.getfield 64, 3) := by decide +kernel
theorem dX5_isPlace_9 : decode cX5_isPlace 9 = .ok (.iconst 1, 1) := by decide +kernel
theorem dX5_isPlace_10 : decode cX5_isPlace 10 = .ok (.isub, 1) := by decide +kernel
theorem dX5_isPlace_11 : decode cX5_isPlace 11 = .ok (.invokestatic 129, 3) := by decide +kernel
theorem dX5_isPlace_14 : decode cX5_isPlace 14 = .ok (.ireturn, 1) := by decide +kernel
theorem dX5_isNode_0 : decode cX5_isNode 0 = .ok (.iload_n 1, 1) := by decide +kernel
theorem dX5_isNode_1 : decode cX5_isNode 1 = .ok (.iconst 0, 1) := by decide +kernel
theorem dX5_isNode_2 : decode cX5_isNode 2 = .ok (.aload_n 0, 1) := by decide +kernel
theorem dX5_isNode_3 : decode cX5_isNode 3 = .ok (.getfield 12, 3) := by decide +kernel
theorem dX5_isNode_6 : decode cX5_isNode 6 = .ok (.getfield 148, 3) := by decide +kernel
theorem dX5_isNode_9 : decode cX5_isNode 9 = .ok (.iconst 1, 1) := by decide +kernel
theorem dX5_isNode_10 : decode cX5_isNode 10 = .ok (.isub, 1) := by decide +kernel
theorem dX5_isNode_11 : decode cX5_isNode 11 = .ok (.invokestatic 129, 3) := by decide +kernel
theorem dX5_isNode_14 : decode cX5_isNode 14 = .ok (.ireturn, 1) := by decide +kernel
theorem dX5_nodeOrNone_0 : decode cX5_nodeOrNone 0 = .ok (.iload_n 0, 1) := by decide +kernel
theorem dX5_nodeOrNone_1 : decode cX5_nodeOrNone 1 = .ok (.bipush 48, 2) := by decide +kernel
theorem dX5_nodeOrNone_3 : decode cX5_nodeOrNone 3 = .ok (.if_icmp .ge 7, 3) := by decide +kernel
theorem dX5_nodeOrNone_6 : decode cX5_nodeOrNone 6 = .ok (.iload_n 0, 1) := by decide +kernel
theorem dX5_nodeOrNone_7 : decode cX5_nodeOrNone 7 = .ok (.goto 5, 3) := by decide +kernel
theorem dX5_nodeOrNone_10 : decode cX5_nodeOrNone 10 = .ok (.bipush (-4), 2) := by decide +kernel
theorem dX5_nodeOrNone_12 : decode cX5_nodeOrNone 12 = .ok (.ireturn, 1) := by decide +kernel
theorem dX5_fewestFills_0 : decode cX5_fewestFills 0 = .ok (.aload_n 0, 1) := by decide +kernel
theorem dX5_fewestFills_1 : decode cX5_fewestFills 1 = .ok (.getfield 12, 3) := by decide +kernel
theorem dX5_fewestFills_4 : decode cX5_fewestFills 4 = .ok (.getfield 86, 3) := by decide +kernel
theorem dX5_fewestFills_7 : decode cX5_fewestFills 7 = .ok (.astore_n 1, 1) := by decide +kernel
theorem dX5_fewestFills_8 : decode cX5_fewestFills 8 = .ok (.aload_n 0, 1) := by decide +kernel
theorem dX5_fewestFills_9 : decode cX5_fewestFills 9 = .ok (.getfield 12, 3) := by decide +kernel
theorem dX5_fewestFills_12 : decode cX5_fewestFills 12 = .ok (.getfield 64, 3) := by decide +kernel
theorem dX5_fewestFills_15 : decode cX5_fewestFills 15 = .ok (.iconst 1, 1) := by decide +kernel
theorem dX5_fewestFills_16 : decode cX5_fewestFills 16 = .ok (.isub, 1) := by decide +kernel
theorem dX5_fewestFills_17 : decode cX5_fewestFills 17 = .ok (.istore_n 2, 1) := by decide +kernel
theorem dX5_fewestFills_18 : decode cX5_fewestFills 18 = .ok (.iload_n 2, 1) := by decide +kernel
theorem dX5_fewestFills_19 : decode cX5_fewestFills 19 = .ok (.ifCond .lt 90, 3) := by decide +kernel
theorem dX5_fewestFills_22 : decode cX5_fewestFills 22 = .ok (.iconst 0, 1) := by decide +kernel
theorem dX5_fewestFills_23 : decode cX5_fewestFills 23 = .ok (.istore_n 3, 1) := by decide +kernel
theorem dX5_fewestFills_24 : decode cX5_fewestFills 24 = .ok (.aload_n 0, 1) := by decide +kernel
theorem dX5_fewestFills_25 : decode cX5_fewestFills 25 = .ok (.getfield 57, 3) := by decide +kernel
theorem dX5_fewestFills_28 : decode cX5_fewestFills 28 = .ok (.iload_n 2, 1) := by decide +kernel
theorem dX5_fewestFills_29 : decode cX5_fewestFills 29 = .ok (.iconst 0, 1) := by decide +kernel
theorem dX5_fewestFills_30 : decode cX5_fewestFills 30 = .ok (.iastore, 1) := by decide +kernel
theorem dX5_fewestFills_31 : decode cX5_fewestFills 31 = .ok (.iload_n 2, 1) := by decide +kernel
theorem dX5_fewestFills_32 : decode cX5_fewestFills 32 = .ok (.iconst 1, 1) := by decide +kernel
theorem dX5_fewestFills_33 : decode cX5_fewestFills 33 = .ok (.iadd, 1) := by decide +kernel
theorem dX5_fewestFills_34 : decode cX5_fewestFills 34 = .ok (.istore 4, 2) := by decide +kernel
theorem dX5_fewestFills_36 : decode cX5_fewestFills 36 = .ok (.iload 4, 2) := by decide +kernel
theorem dX5_fewestFills_38 : decode cX5_fewestFills 38 = .ok (.aload_n 0, 1) := by decide +kernel
theorem dX5_fewestFills_39 : decode cX5_fewestFills 39 = .ok (.getfield 12, 3) := by decide +kernel
theorem dX5_fewestFills_42 : decode cX5_fewestFills 42 = .ok (.getfield 64, 3) := by decide +kernel
theorem dX5_fewestFills_45 : decode cX5_fewestFills 45 = .ok (.if_icmp .ge 58, 3) := by decide +kernel
theorem dX5_fewestFills_48 : decode cX5_fewestFills 48 = .ok (.aload_n 0, 1) := by decide +kernel
theorem dX5_fewestFills_49 : decode cX5_fewestFills 49 = .ok (.getfield 57, 3) := by decide +kernel
theorem dX5_fewestFills_52 : decode cX5_fewestFills 52 = .ok (.iload 4, 2) := by decide +kernel
theorem dX5_fewestFills_54 : decode cX5_fewestFills 54 = .ok (.iaload, 1) := by decide +kernel
theorem dX5_fewestFills_55 : decode cX5_fewestFills 55 = .ok (.istore 5, 2) := by decide +kernel
theorem dX5_fewestFills_57 : decode cX5_fewestFills 57 = .ok (.aload_n 0, 1) := by decide +kernel
theorem dX5_fewestFills_58 : decode cX5_fewestFills 58 = .ok (.getfield 57, 3) := by decide +kernel
theorem dX5_fewestFills_61 : decode cX5_fewestFills 61 = .ok (.iload 4, 2) := by decide +kernel
theorem dX5_fewestFills_63 : decode cX5_fewestFills 63 = .ok (.aload_n 1, 1) := by decide +kernel
theorem dX5_fewestFills_64 : decode cX5_fewestFills 64 = .ok (.iload_n 2, 1) := by decide +kernel
theorem dX5_fewestFills_65 : decode cX5_fewestFills 65 = .ok (.iaload, 1) := by decide +kernel
theorem dX5_fewestFills_66 : decode cX5_fewestFills 66 = .ok (.aload_n 1, 1) := by decide +kernel
theorem dX5_fewestFills_67 : decode cX5_fewestFills 67 = .ok (.iload 4, 2) := by decide +kernel
theorem dX5_fewestFills_69 : decode cX5_fewestFills 69 = .ok (.iaload, 1) := by decide +kernel
theorem dX5_fewestFills_70 : decode cX5_fewestFills 70 = .ok (.if_icmp .ne 7, 3) := by decide +kernel
theorem dX5_fewestFills_73 : decode cX5_fewestFills 73 = .ok (.iload_n 3, 1) := by decide +kernel
theorem dX5_fewestFills_74 : decode cX5_fewestFills 74 = .ok (.goto 19, 3) := by decide +kernel
theorem dX5_fewestFills_77 : decode cX5_fewestFills 77 = .ok (.iconst 1, 1) := by decide +kernel
theorem dX5_fewestFills_78 : decode cX5_fewestFills 78 = .ok (.iload 5, 2) := by decide +kernel
theorem dX5_fewestFills_80 : decode cX5_fewestFills 80 = .ok (.aload_n 0, 1) := by decide +kernel
theorem dX5_fewestFills_81 : decode cX5_fewestFills 81 = .ok (.getfield 57, 3) := by decide +kernel
theorem dX5_fewestFills_84 : decode cX5_fewestFills 84 = .ok (.iload 4, 2) := by decide +kernel
theorem dX5_fewestFills_86 : decode cX5_fewestFills 86 = .ok (.iconst 1, 1) := by decide +kernel
theorem dX5_fewestFills_87 : decode cX5_fewestFills 87 = .ok (.isub, 1) := by decide +kernel
theorem dX5_fewestFills_88 : decode cX5_fewestFills 88 = .ok (.iaload, 1) := by decide +kernel
theorem dX5_fewestFills_89 : decode cX5_fewestFills 89 = .ok (.invokestatic 263, 3) := by decide +kernel
theorem dX5_fewestFills_92 : decode cX5_fewestFills 92 = .ok (.iadd, 1) := by decide +kernel
theorem dX5_fewestFills_93 : decode cX5_fewestFills 93 = .ok (.iastore, 1) := by decide +kernel
theorem dX5_fewestFills_94 : decode cX5_fewestFills 94 = .ok (.iload 5, 2) := by decide +kernel
theorem dX5_fewestFills_96 : decode cX5_fewestFills 96 = .ok (.istore_n 3, 1) := by decide +kernel
theorem dX5_fewestFills_97 : decode cX5_fewestFills 97 = .ok (.iinc 4 1, 3) := by decide +kernel
theorem dX5_fewestFills_100 : decode cX5_fewestFills 100 = .ok (.goto (-64), 3) := by decide +kernel
theorem dX5_fewestFills_103 : decode cX5_fewestFills 103 = .ok (.iinc 2 (-1), 3) := by decide +kernel
theorem dX5_fewestFills_106 : decode cX5_fewestFills 106 = .ok (.goto (-88), 3) := by decide +kernel
theorem dX5_fewestFills_109 : decode cX5_fewestFills 109 = .ok (.aload_n 0, 1) := by decide +kernel
theorem dX5_fewestFills_110 : decode cX5_fewestFills 110 = .ok (.getfield 12, 3) := by decide +kernel
theorem dX5_fewestFills_113 : decode cX5_fewestFills 113 = .ok (.getfield 64, 3) := by decide +kernel
theorem dX5_fewestFills_116 : decode cX5_fewestFills 116 = .ok (.ifCond .ne 7, 3) := by decide +kernel
theorem dX5_fewestFills_119 : decode cX5_fewestFills 119 = .ok (.iconst 0, 1) := by decide +kernel
theorem dX5_fewestFills_120 : decode cX5_fewestFills 120 = .ok (.goto 17, 3) := by decide +kernel
theorem dX5_fewestFills_123 : decode cX5_fewestFills 123 = .ok (.aload_n 0, 1) := by decide +kernel
theorem dX5_fewestFills_124 : decode cX5_fewestFills 124 = .ok (.getfield 57, 3) := by decide +kernel
theorem dX5_fewestFills_127 : decode cX5_fewestFills 127 = .ok (.aload_n 0, 1) := by decide +kernel
theorem dX5_fewestFills_128 : decode cX5_fewestFills 128 = .ok (.getfield 12, 3) := by decide +kernel
theorem dX5_fewestFills_131 : decode cX5_fewestFills 131 = .ok (.getfield 64, 3) := by decide +kernel
theorem dX5_fewestFills_134 : decode cX5_fewestFills 134 = .ok (.iconst 1, 1) := by decide +kernel
theorem dX5_fewestFills_135 : decode cX5_fewestFills 135 = .ok (.isub, 1) := by decide +kernel
theorem dX5_fewestFills_136 : decode cX5_fewestFills 136 = .ok (.iaload, 1) := by decide +kernel
theorem dX5_fewestFills_137 : decode cX5_fewestFills 137 = .ok (.ireturn, 1) := by decide +kernel
theorem dX5_growMost_0 : decode cX5_growMost 0 = .ok (.iconst (-1), 1) := by decide +kernel
theorem dX5_growMost_1 : decode cX5_growMost 1 = .ok (.istore_n 2, 1) := by decide +kernel
theorem dX5_growMost_2 : decode cX5_growMost 2 = .ok (.iload_n 1, 1) := by decide +kernel
theorem dX5_growMost_3 : decode cX5_growMost 3 = .ok (.invokestatic 191, 3) := by decide +kernel
theorem dX5_growMost_6 : decode cX5_growMost 6 = .ok (.istore_n 3, 1) := by decide +kernel
theorem dX5_growMost_7 : decode cX5_growMost 7 = .ok (.aload_n 0, 1) := by decide +kernel
theorem dX5_growMost_8 : decode cX5_growMost 8 = .ok (.iload_n 1, 1) := by decide +kernel
theorem dX5_growMost_9 : decode cX5_growMost 9 = .ok (.invokevirtual 266, 3) := by decide +kernel
theorem dX5_growMost_12 : decode cX5_growMost 12 = .ok (.iconst 0, 1) := by decide +kernel
theorem dX5_growMost_13 : decode cX5_growMost 13 = .ok (.istore 4, 2) := by decide +kernel
theorem dX5_growMost_15 : decode cX5_growMost 15 = .ok (.iload 4, 2) := by decide +kernel
theorem dX5_growMost_17 : decode cX5_growMost 17 = .ok (.iload_n 3, 1) := by decide +kernel
theorem dX5_growMost_18 : decode cX5_growMost 18 = .ok (.if_icmp .ge 56, 3) := by decide +kernel
theorem dX5_growMost_21 : decode cX5_growMost 21 = .ok (.aload_n 0, 1) := by decide +kernel
theorem dX5_growMost_22 : decode cX5_growMost 22 = .ok (.getfield 16, 3) := by decide +kernel
theorem dX5_growMost_25 : decode cX5_growMost 25 = .ok (.getfield 148, 3) := by decide +kernel
theorem dX5_growMost_28 : decode cX5_growMost 28 = .ok (.iload_n 2, 1) := by decide +kernel
theorem dX5_growMost_29 : decode cX5_growMost 29 = .ok (.if_icmp .le 34, 3) := by decide +kernel
theorem dX5_growMost_32 : decode cX5_growMost 32 = .ok (.aload_n 0, 1) := by decide +kernel
theorem dX5_growMost_33 : decode cX5_growMost 33 = .ok (.getfield 16, 3) := by decide +kernel
theorem dX5_growMost_36 : decode cX5_growMost 36 = .ok (.getfield 148, 3) := by decide +kernel
theorem dX5_growMost_39 : decode cX5_growMost 39 = .ok (.istore_n 2, 1) := by decide +kernel
theorem dX5_growMost_40 : decode cX5_growMost 40 = .ok (.aload_n 0, 1) := by decide +kernel
theorem dX5_growMost_41 : decode cX5_growMost 41 = .ok (.getfield 16, 3) := by decide +kernel
theorem dX5_growMost_44 : decode cX5_growMost 44 = .ok (.getfield 86, 3) := by decide +kernel
theorem dX5_growMost_47 : decode cX5_growMost 47 = .ok (.aload_n 0, 1) := by decide +kernel
theorem dX5_growMost_48 : decode cX5_growMost 48 = .ok (.getfield 12, 3) := by decide +kernel
theorem dX5_growMost_51 : decode cX5_growMost 51 = .ok (.getfield 64, 3) := by decide +kernel
theorem dX5_growMost_54 : decode cX5_growMost 54 = .ok (.aload_n 0, 1) := by decide +kernel
theorem dX5_growMost_55 : decode cX5_growMost 55 = .ok (.getfield 53, 3) := by decide +kernel
theorem dX5_growMost_58 : decode cX5_growMost 58 = .ok (.iconst 0, 1) := by decide +kernel
theorem dX5_growMost_59 : decode cX5_growMost 59 = .ok (.iload_n 1, 1) := by decide +kernel
theorem dX5_growMost_60 : decode cX5_growMost 60 = .ok (.invokestatic 245, 3) := by decide +kernel
theorem dX5_growMost_63 : decode cX5_growMost 63 = .ok (.aload_n 0, 1) := by decide +kernel
theorem dX5_growMost_64 : decode cX5_growMost 64 = .ok (.iload_n 1, 1) := by decide +kernel
theorem dX5_growMost_65 : decode cX5_growMost 65 = .ok (.invokevirtual 269, 3) := by decide +kernel
theorem dX5_growMost_68 : decode cX5_growMost 68 = .ok (.iinc 4 1, 3) := by decide +kernel
theorem dX5_growMost_71 : decode cX5_growMost 71 = .ok (.goto (-56), 3) := by decide +kernel
theorem dX5_growMost_74 : decode cX5_growMost 74 = .ok (.iload_n 2, 1) := by decide +kernel
theorem dX5_growMost_75 : decode cX5_growMost 75 = .ok (.ireturn, 1) := by decide +kernel
theorem dX5_rowsThatBring_0 : decode cX5_rowsThatBring 0 = .ok (.iconst 0, 1) := by decide +kernel
theorem dX5_rowsThatBring_1 : decode cX5_rowsThatBring 1 = .ok (.istore_n 3, 1) := by decide +kernel
theorem dX5_rowsThatBring_2 : decode cX5_rowsThatBring 2 = .ok (.iload_n 1, 1) := by decide +kernel
theorem dX5_rowsThatBring_3 : decode cX5_rowsThatBring 3 = .ok (.invokestatic 191, 3) := by decide +kernel
theorem dX5_rowsThatBring_6 : decode cX5_rowsThatBring 6 = .ok (.istore 4, 2) := by decide +kernel
theorem dX5_rowsThatBring_8 : decode cX5_rowsThatBring 8 = .ok (.aload_n 0, 1) := by decide +kernel
theorem dX5_rowsThatBring_9 : decode cX5_rowsThatBring 9 = .ok (.iload_n 1, 1) := by decide +kernel
theorem dX5_rowsThatBring_10 : decode cX5_rowsThatBring 10 = .ok (.invokevirtual 266, 3) := by decide +kernel
theorem dX5_rowsThatBring_13 : decode cX5_rowsThatBring 13 = .ok (.iconst 0, 1) := by decide +kernel
theorem dX5_rowsThatBring_14 : decode cX5_rowsThatBring 14 = .ok (.istore 5, 2) := by decide +kernel
theorem dX5_rowsThatBring_16 : decode cX5_rowsThatBring 16 = .ok (.iload 5, 2) := by decide +kernel
theorem dX5_rowsThatBring_18 : decode cX5_rowsThatBring 18 = .ok (.iload 4, 2) := by decide +kernel
theorem dX5_rowsThatBring_20 : decode cX5_rowsThatBring 20 = .ok (.if_icmp .ge 36, 3) := by decide +kernel
theorem dX5_rowsThatBring_23 : decode cX5_rowsThatBring 23 = .ok (.aload_n 0, 1) := by decide +kernel
theorem dX5_rowsThatBring_24 : decode cX5_rowsThatBring 24 = .ok (.getfield 16, 3) := by decide +kernel
theorem dX5_rowsThatBring_27 : decode cX5_rowsThatBring 27 = .ok (.getfield 148, 3) := by decide +kernel
theorem dX5_rowsThatBring_30 : decode cX5_rowsThatBring 30 = .ok (.aload_n 0, 1) := by decide +kernel
theorem dX5_rowsThatBring_31 : decode cX5_rowsThatBring 31 = .ok (.getfield 12, 3) := by decide +kernel
theorem dX5_rowsThatBring_34 : decode cX5_rowsThatBring 34 = .ok (.getfield 148, 3) := by decide +kernel
theorem dX5_rowsThatBring_37 : decode cX5_rowsThatBring 37 = .ok (.isub, 1) := by decide +kernel
theorem dX5_rowsThatBring_38 : decode cX5_rowsThatBring 38 = .ok (.iload_n 2, 1) := by decide +kernel
theorem dX5_rowsThatBring_39 : decode cX5_rowsThatBring 39 = .ok (.if_icmp .lt 6, 3) := by decide +kernel
theorem dX5_rowsThatBring_42 : decode cX5_rowsThatBring 42 = .ok (.iinc 3 1, 3) := by decide +kernel
theorem dX5_rowsThatBring_45 : decode cX5_rowsThatBring 45 = .ok (.aload_n 0, 1) := by decide +kernel
theorem dX5_rowsThatBring_46 : decode cX5_rowsThatBring 46 = .ok (.iload_n 1, 1) := by decide +kernel
theorem dX5_rowsThatBring_47 : decode cX5_rowsThatBring 47 = .ok (.invokevirtual 269, 3) := by decide +kernel
theorem dX5_rowsThatBring_50 : decode cX5_rowsThatBring 50 = .ok (.iinc 5 1, 3) := by decide +kernel
theorem dX5_rowsThatBring_53 : decode cX5_rowsThatBring 53 = .ok (.goto (-37), 3) := by decide +kernel
theorem dX5_rowsThatBring_56 : decode cX5_rowsThatBring 56 = .ok (.iload_n 3, 1) := by decide +kernel
theorem dX5_rowsThatBring_57 : decode cX5_rowsThatBring 57 = .ok (.ireturn, 1) := by decide +kernel
theorem dX5_rowsOf_0 : decode cX5_rowsOf 0 = .ok (.iconst 1, 1) := by decide +kernel
theorem dX5_rowsOf_1 : decode cX5_rowsOf 1 = .ok (.istore_n 1, 1) := by decide +kernel
theorem dX5_rowsOf_2 : decode cX5_rowsOf 2 = .ok (.iconst 0, 1) := by decide +kernel
theorem dX5_rowsOf_3 : decode cX5_rowsOf 3 = .ok (.istore_n 2, 1) := by decide +kernel
theorem dX5_rowsOf_4 : decode cX5_rowsOf 4 = .ok (.iload_n 2, 1) := by decide +kernel
theorem dX5_rowsOf_5 : decode cX5_rowsOf 5 = .ok (.iload_n 0, 1) := by decide +kernel
theorem dX5_rowsOf_6 : decode cX5_rowsOf 6 = .ok (.if_icmp .ge 14, 3) := by decide +kernel
theorem dX5_rowsOf_9 : decode cX5_rowsOf 9 = .ok (.iload_n 1, 1) := by decide +kernel
theorem dX5_rowsOf_10 : decode cX5_rowsOf 10 = .ok (.bipush 6, 2) := by decide +kernel
theorem dX5_rowsOf_12 : decode cX5_rowsOf 12 = .ok (.imul, 1) := by decide +kernel
theorem dX5_rowsOf_13 : decode cX5_rowsOf 13 = .ok (.istore_n 1, 1) := by decide +kernel
theorem dX5_rowsOf_14 : decode cX5_rowsOf 14 = .ok (.iinc 2 1, 3) := by decide +kernel
theorem dX5_rowsOf_17 : decode cX5_rowsOf 17 = .ok (.goto (-13), 3) := by decide +kernel
theorem dX5_rowsOf_20 : decode cX5_rowsOf 20 = .ok (.iload_n 1, 1) := by decide +kernel
theorem dX5_rowsOf_21 : decode cX5_rowsOf 21 = .ok (.ireturn, 1) := by decide +kernel
theorem dX5_startRows_0 : decode cX5_startRows 0 = .ok (.aload_n 0, 1) := by decide +kernel
theorem dX5_startRows_1 : decode cX5_startRows 1 = .ok (.getfield 16, 3) := by decide +kernel
theorem dX5_startRows_4 : decode cX5_startRows 4 = .ok (.aload_n 0, 1) := by decide +kernel
theorem dX5_startRows_5 : decode cX5_startRows 5 = .ok (.getfield 12, 3) := by decide +kernel
theorem dX5_startRows_8 : decode cX5_startRows 8 = .ok (.getfield 86, 3) := by decide +kernel
theorem dX5_startRows_11 : decode cX5_startRows 11 = .ok (.iconst 0, 1) := by decide +kernel
theorem dX5_startRows_12 : decode cX5_startRows 12 = .ok (.aload_n 0, 1) := by decide +kernel
theorem dX5_startRows_13 : decode cX5_startRows 13 = .ok (.getfield 12, 3) := by decide +kernel
theorem dX5_startRows_16 : decode cX5_startRows 16 = .ok (.getfield 64, 3) := by decide +kernel
theorem dX5_startRows_19 : decode cX5_startRows 19 = .ok (.invokevirtual 141, 3) := by decide +kernel
theorem dX5_startRows_22 : decode cX5_startRows 22 = .ok (.aload_n 0, 1) := by decide +kernel
theorem dX5_startRows_23 : decode cX5_startRows 23 = .ok (.getfield 16, 3) := by decide +kernel
theorem dX5_startRows_26 : decode cX5_startRows 26 = .ok (.iload_n 1, 1) := by decide +kernel
theorem dX5_startRows_27 : decode cX5_startRows 27 = .ok (.invokevirtual 272, 3) := by decide +kernel
theorem dX5_startRows_30 : decode cX5_startRows 30 = .ok (.return_, 1) := by decide +kernel
theorem dX5_stepRow_0 : decode cX5_stepRow 0 = .ok (.iconst 0, 1) := by decide +kernel
theorem dX5_stepRow_1 : decode cX5_stepRow 1 = .ok (.istore_n 2, 1) := by decide +kernel
theorem dX5_stepRow_2 : decode cX5_stepRow 2 = .ok (.iconst 0, 1) := by decide +kernel
theorem dX5_stepRow_3 : decode cX5_stepRow 3 = .ok (.istore_n 3, 1) := by decide +kernel
theorem dX5_stepRow_4 : decode cX5_stepRow 4 = .ok (.iload_n 3, 1) := by decide +kernel
theorem dX5_stepRow_5 : decode cX5_stepRow 5 = .ok (.iload_n 1, 1) := by decide +kernel
theorem dX5_stepRow_6 : decode cX5_stepRow 6 = .ok (.if_icmp .ge 31, 3) := by decide +kernel
theorem dX5_stepRow_9 : decode cX5_stepRow 9 = .ok (.aload_n 0, 1) := by decide +kernel
theorem dX5_stepRow_10 : decode cX5_stepRow 10 = .ok (.getfield 16, 3) := by decide +kernel
theorem dX5_stepRow_13 : decode cX5_stepRow 13 = .ok (.invokevirtual 76, 3) := by decide +kernel
theorem dX5_stepRow_16 : decode cX5_stepRow 16 = .ok (.bipush 102, 2) := by decide +kernel
theorem dX5_stepRow_18 : decode cX5_stepRow 18 = .ok (.if_icmp .ne 19, 3) := by decide +kernel
theorem dX5_stepRow_21 : decode cX5_stepRow 21 = .ok (.aload_n 0, 1) := by decide +kernel
theorem dX5_stepRow_22 : decode cX5_stepRow 22 = .ok (.getfield 16, 3) := by decide +kernel
theorem dX5_stepRow_25 : decode cX5_stepRow 25 = .ok (.invokevirtual 80, 3) := by decide +kernel
theorem dX5_stepRow_28 : decode cX5_stepRow 28 = .ok (.iinc 2 1, 3) := by decide +kernel
theorem dX5_stepRow_31 : decode cX5_stepRow 31 = .ok (.iinc 3 1, 3) := by decide +kernel
theorem dX5_stepRow_34 : decode cX5_stepRow 34 = .ok (.goto (-30), 3) := by decide +kernel
theorem dX5_stepRow_37 : decode cX5_stepRow 37 = .ok (.iload_n 2, 1) := by decide +kernel
theorem dX5_stepRow_38 : decode cX5_stepRow 38 = .ok (.iload_n 1, 1) := by decide +kernel
theorem dX5_stepRow_39 : decode cX5_stepRow 39 = .ok (.if_icmp .ge 29, 3) := by decide +kernel
theorem dX5_stepRow_42 : decode cX5_stepRow 42 = .ok (.aload_n 0, 1) := by decide +kernel
theorem dX5_stepRow_43 : decode cX5_stepRow 43 = .ok (.getfield 16, 3) := by decide +kernel
theorem dX5_stepRow_46 : decode cX5_stepRow 46 = .ok (.invokevirtual 76, 3) := by decide +kernel
theorem dX5_stepRow_49 : decode cX5_stepRow 49 = .ok (.iconst 1, 1) := by decide +kernel
theorem dX5_stepRow_50 : decode cX5_stepRow 50 = .ok (.iadd, 1) := by decide +kernel
theorem dX5_stepRow_51 : decode cX5_stepRow 51 = .ok (.istore_n 3, 1) := by decide +kernel
theorem dX5_stepRow_52 : decode cX5_stepRow 52 = .ok (.aload_n 0, 1) := by decide +kernel
theorem dX5_stepRow_53 : decode cX5_stepRow 53 = .ok (.getfield 16, 3) := by decide +kernel
theorem dX5_stepRow_56 : decode cX5_stepRow 56 = .ok (.invokevirtual 80, 3) := by decide +kernel
theorem dX5_stepRow_59 : decode cX5_stepRow 59 = .ok (.aload_n 0, 1) := by decide +kernel
theorem dX5_stepRow_60 : decode cX5_stepRow 60 = .ok (.getfield 16, 3) := by decide +kernel
theorem dX5_stepRow_63 : decode cX5_stepRow 63 = .ok (.iload_n 3, 1) := by decide +kernel
theorem dX5_stepRow_64 : decode cX5_stepRow 64 = .ok (.invokevirtual 72, 3) := by decide +kernel
theorem dX5_stepRow_67 : decode cX5_stepRow 67 = .ok (.pop, 1) := by decide +kernel
theorem dX5_stepRow_68 : decode cX5_stepRow 68 = .ok (.aload_n 0, 1) := by decide +kernel
theorem dX5_stepRow_69 : decode cX5_stepRow 69 = .ok (.getfield 16, 3) := by decide +kernel
theorem dX5_stepRow_72 : decode cX5_stepRow 72 = .ok (.iload_n 2, 1) := by decide +kernel
theorem dX5_stepRow_73 : decode cX5_stepRow 73 = .ok (.invokevirtual 272, 3) := by decide +kernel
theorem dX5_stepRow_76 : decode cX5_stepRow 76 = .ok (.return_, 1) := by decide +kernel
theorem dX5_greatestDivisor_0 : decode cX5_greatestDivisor 0 = .ok (.iload_n 0, 1) := by decide +kernel
theorem dX5_greatestDivisor_1 : decode cX5_greatestDivisor 1 = .ok (.istore_n 2, 1) := by decide +kernel
theorem dX5_greatestDivisor_2 : decode cX5_greatestDivisor 2 = .ok (.iload_n 1, 1) := by decide +kernel
theorem dX5_greatestDivisor_3 : decode cX5_greatestDivisor 3 = .ok (.istore_n 3, 1) := by decide +kernel
theorem dX5_greatestDivisor_4 : decode cX5_greatestDivisor 4 = .ok (.iconst 0, 1) := by decide +kernel
theorem dX5_greatestDivisor_5 : decode cX5_greatestDivisor 5 = .ok (.istore 4, 2) := by decide +kernel
theorem dX5_greatestDivisor_7 : decode cX5_greatestDivisor 7 = .ok (.iload 4, 2) := by decide +kernel
theorem dX5_greatestDivisor_9 : decode cX5_greatestDivisor 9 = .ok (.bipush 48, 2) := by decide +kernel
theorem dX5_greatestDivisor_11 : decode cX5_greatestDivisor 11 = .ok (.if_icmp .ge 23, 3) := by decide +kernel
theorem dX5_greatestDivisor_14 : decode cX5_greatestDivisor 14 = .ok (.iload_n 3, 1) := by decide +kernel
theorem dX5_greatestDivisor_15 : decode cX5_greatestDivisor 15 = .ok (.ifCond .eq 19, 3) := by decide +kernel
theorem dX5_greatestDivisor_18 : decode cX5_greatestDivisor 18 = .ok (.iload_n 2, 1) := by decide +kernel
theorem dX5_greatestDivisor_19 : decode cX5_greatestDivisor 19 = .ok (.iload_n 3, 1) := by decide +kernel
theorem dX5_greatestDivisor_20 : decode cX5_greatestDivisor 20 = .ok (.irem, 1) := by decide +kernel
theorem dX5_greatestDivisor_21 : decode cX5_greatestDivisor 21 = .ok (.istore 5, 2) := by decide +kernel
theorem dX5_greatestDivisor_23 : decode cX5_greatestDivisor 23 = .ok (.iload_n 3, 1) := by decide +kernel
theorem dX5_greatestDivisor_24 : decode cX5_greatestDivisor 24 = .ok (.istore_n 2, 1) := by decide +kernel
theorem dX5_greatestDivisor_25 : decode cX5_greatestDivisor 25 = .ok (.iload 5, 2) := by decide +kernel
theorem dX5_greatestDivisor_27 : decode cX5_greatestDivisor 27 = .ok (.istore_n 3, 1) := by decide +kernel
theorem dX5_greatestDivisor_28 : decode cX5_greatestDivisor 28 = .ok (.iinc 4 1, 3) := by decide +kernel
theorem dX5_greatestDivisor_31 : decode cX5_greatestDivisor 31 = .ok (.goto (-24), 3) := by decide +kernel
theorem dX5_greatestDivisor_34 : decode cX5_greatestDivisor 34 = .ok (.iload_n 2, 1) := by decide +kernel
theorem dX5_greatestDivisor_35 : decode cX5_greatestDivisor 35 = .ok (.ireturn, 1) := by decide +kernel
theorem dX6_init_0 : decode cX6_init 0 = .ok (.aload_n 0, 1) := by decide +kernel
theorem dX6_init_1 : decode cX6_init 1 = .ok (.invokespecial 1, 3) := by decide +kernel
theorem dX6_init_4 : decode cX6_init 4 = .ok (.aload_n 0, 1) := by decide +kernel
theorem dX6_init_5 : decode cX6_init 5 = .ok (.bipush 48, 2) := by decide +kernel
theorem dX6_init_7 : decode cX6_init 7 = .ok (.newarray .int, 2) := by decide +kernel
theorem dX6_init_9 : decode cX6_init 9 = .ok (.putfield 7, 3) := by decide +kernel
theorem dX6_init_12 : decode cX6_init 12 = .ok (.aload_n 0, 1) := by decide +kernel
theorem dX6_init_13 : decode cX6_init 13 = .ok (.bipush 24, 2) := by decide +kernel
theorem dX6_init_15 : decode cX6_init 15 = .ok (.newarray .int, 2) := by decide +kernel
theorem dX6_init_17 : decode cX6_init 17 = .ok (.putfield 13, 3) := by decide +kernel
theorem dX6_init_20 : decode cX6_init 20 = .ok (.aload_n 0, 1) := by decide +kernel
theorem dX6_init_21 : decode cX6_init 21 = .ok (.bipush 96, 2) := by decide +kernel
theorem dX6_init_23 : decode cX6_init 23 = .ok (.newarray .int, 2) := by decide +kernel
theorem dX6_init_25 : decode cX6_init 25 = .ok (.putfield 16, 3) := by decide +kernel
theorem dX6_init_28 : decode cX6_init 28 = .ok (.aload_n 0, 1) := by decide +kernel
theorem dX6_init_29 : decode cX6_init 29 = .ok (.iconst 2, 1) := by decide +kernel
theorem dX6_init_30 : decode cX6_init 30 = .ok (.newarray .int, 2) := by decide +kernel
theorem dX6_init_32 : decode cX6_init 32 = .ok (.putfield 19, 3) := by decide +kernel
theorem dX6_init_35 : decode cX6_init 35 = .ok (.aload_n 0, 1) := by decide +kernel
theorem dX6_init_36 : decode cX6_init 36 = .ok (.bipush 48, 2) := by decide +kernel
theorem dX6_init_38 : decode cX6_init 38 = .ok (.newarray .int, 2) := by decide +kernel
theorem dX6_init_40 : decode cX6_init 40 = .ok (.putfield 22, 3) := by decide +kernel
theorem dX6_init_43 : decode cX6_init 43 = .ok (.aload_n 0, 1) := by decide +kernel
theorem dX6_init_44 : decode cX6_init 44 = .ok (.iconst 4, 1) := by decide +kernel
theorem dX6_init_45 : decode cX6_init 45 = .ok (.newarray .int, 2) := by decide +kernel
theorem dX6_init_47 : decode cX6_init 47 = .ok (.putfield 25, 3) := by decide +kernel
theorem dX6_init_50 : decode cX6_init 50 = .ok (.aload_n 0, 1) := by decide +kernel
theorem dX6_init_51 : decode cX6_init 51 = .ok (.iconst 4, 1) := by decide +kernel
theorem dX6_init_52 : decode cX6_init 52 = .ok (.newarray .int, 2) := by decide +kernel
theorem dX6_init_54 : decode cX6_init 54 = .ok (.putfield 28, 3) := by decide +kernel
theorem dX6_init_57 : decode cX6_init 57 = .ok (.aload_n 0, 1) := by decide +kernel
theorem dX6_init_58 : decode cX6_init 58 = .ok (.sipush 192, 3) := by decide +kernel
theorem dX6_init_61 : decode cX6_init 61 = .ok (.newarray .long, 2) := by decide +kernel
theorem dX6_init_63 : decode cX6_init 63 = .ok (.putfield 31, 3) := by decide +kernel
theorem dX6_init_66 : decode cX6_init 66 = .ok (.aload_n 0, 1) := by decide +kernel
theorem dX6_init_67 : decode cX6_init 67 = .ok (.bipush 48, 2) := by decide +kernel
theorem dX6_init_69 : decode cX6_init 69 = .ok (.newarray .long, 2) := by decide +kernel
theorem dX6_init_71 : decode cX6_init 71 = .ok (.putfield 35, 3) := by decide +kernel
theorem dX6_init_74 : decode cX6_init 74 = .ok (.aload_n 0, 1) := by decide +kernel
theorem dX6_init_75 : decode cX6_init 75 = .ok (.bipush 48, 2) := by decide +kernel
theorem dX6_init_77 : decode cX6_init 77 = .ok (.newarray .int, 2) := by decide +kernel
theorem dX6_init_79 : decode cX6_init 79 = .ok (.putfield 38, 3) := by decide +kernel
theorem dX6_init_82 : decode cX6_init 82 = .ok (.aload_n 0, 1) := by decide +kernel
theorem dX6_init_83 : decode cX6_init 83 = .ok (.bipush 48, 2) := by decide +kernel
theorem dX6_init_85 : decode cX6_init 85 = .ok (.newarray .int, 2) := by decide +kernel
theorem dX6_init_87 : decode cX6_init 87 = .ok (.putfield 41, 3) := by decide +kernel
theorem dX6_init_90 : decode cX6_init 90 = .ok (.aload_n 0, 1) := by decide +kernel
theorem dX6_init_91 : decode cX6_init 91 = .ok (.bipush 49, 2) := by decide +kernel
theorem dX6_init_93 : decode cX6_init 93 = .ok (.newarray .int, 2) := by decide +kernel
theorem dX6_init_95 : decode cX6_init 95 = .ok (.putfield 44, 3) := by decide +kernel
theorem dX6_init_98 : decode cX6_init 98 = .ok (.aload_n 0, 1) := by decide +kernel
theorem dX6_init_99 : decode cX6_init 99 = .ok (.iconst 3, 1) := by decide +kernel
theorem dX6_init_100 : decode cX6_init 100 = .ok (.newarray .int, 2) := by decide +kernel
theorem dX6_init_102 : decode cX6_init 102 = .ok (.putfield 47, 3) := by decide +kernel
theorem dX6_init_105 : decode cX6_init 105 = .ok (.aload_n 0, 1) := by decide +kernel
theorem dX6_init_106 : decode cX6_init 106 = .ok (.bipush 48, 2) := by decide +kernel
theorem dX6_init_108 : decode cX6_init 108 = .ok (.newarray .int, 2) := by decide +kernel
theorem dX6_init_110 : decode cX6_init 110 = .ok (.putfield 50, 3) := by decide +kernel
theorem dX6_init_113 : decode cX6_init 113 = .ok (.aload_n 0, 1) := by decide +kernel
theorem dX6_init_114 : decode cX6_init 114 = .ok (.getfield 19, 3) := by decide +kernel
theorem dX6_init_117 : decode cX6_init 117 = .ok (.iconst 0, 1) := by decide +kernel
theorem dX6_init_118 : decode cX6_init 118 = .ok (.iconst (-1), 1) := by decide +kernel
theorem dX6_init_119 : decode cX6_init 119 = .ok (.iastore, 1) := by decide +kernel
theorem dX6_init_120 : decode cX6_init 120 = .ok (.aload_n 0, 1) := by decide +kernel
theorem dX6_init_121 : decode cX6_init 121 = .ok (.getfield 19, 3) := by decide +kernel
theorem dX6_init_124 : decode cX6_init 124 = .ok (.iconst 1, 1) := by decide +kernel
theorem dX6_init_125 : decode cX6_init 125 = .ok (.iconst (-1), 1) := by decide +kernel
theorem dX6_init_126 : decode cX6_init 126 = .ok (.iastore, 1) := by decide +kernel
theorem dX6_init_127 : decode cX6_init 127 = .ok (.iconst 0, 1) := by decide +kernel
theorem dX6_init_128 : decode cX6_init 128 = .ok (.istore_n 1, 1) := by decide +kernel
theorem dX6_init_129 : decode cX6_init 129 = .ok (.iload_n 1, 1) := by decide +kernel
theorem dX6_init_130 : decode cX6_init 130 = .ok (.iconst 4, 1) := by decide +kernel
theorem dX6_init_131 : decode cX6_init 131 = .ok (.if_icmp .ge 16, 3) := by decide +kernel
theorem dX6_init_134 : decode cX6_init 134 = .ok (.aload_n 0, 1) := by decide +kernel
theorem dX6_init_135 : decode cX6_init 135 = .ok (.getfield 25, 3) := by decide +kernel
theorem dX6_init_138 : decode cX6_init 138 = .ok (.iload_n 1, 1) := by decide +kernel
theorem dX6_init_139 : decode cX6_init 139 = .ok (.iconst (-1), 1) := by decide +kernel
theorem dX6_init_140 : decode cX6_init 140 = .ok (.iastore, 1) := by decide +kernel
theorem dX6_init_141 : decode cX6_init 141 = .ok (.iinc 1 1, 3) := by decide +kernel
theorem dX6_init_144 : decode cX6_init 144 = .ok (.goto (-15), 3) := by decide +kernel
theorem dX6_init_147 : decode cX6_init 147 = .ok (.return_, 1) := by decide +kernel
theorem dX6_within_0 : decode cX6_within 0 = .ok (.lload_n 0, 1) := by decide +kernel
theorem dX6_within_1 : decode cX6_within 1 = .ok (.lload_n 2, 1) := by decide +kernel
theorem dX6_within_2 : decode cX6_within 2 = .ok (.lcmp, 1) := by decide +kernel
theorem dX6_within_3 : decode cX6_within 3 = .ok (.ifCond .lt 14, 3) := by decide +kernel
theorem dX6_within_6 : decode cX6_within 6 = .ok (.lload_n 0, 1) := by decide +kernel
theorem dX6_within_7 : decode cX6_within 7 = .ok (.lload 4, 2) := by decide +kernel
theorem dX6_within_9 : decode cX6_within 9 = .ok (.lcmp, 1) := by decide +kernel
theorem dX6_within_10 : decode cX6_within 10 = .ok (.ifCond .gt 7, 3) := by decide +kernel
theorem dX6_within_13 : decode cX6_within 13 = .ok (.iconst 1, 1) := by decide +kernel
theorem dX6_within_14 : decode cX6_within 14 = .ok (.goto 4, 3) := by decide +kernel
theorem dX6_within_17 : decode cX6_within 17 = .ok (.iconst 0, 1) := by decide +kernel
theorem dX6_within_18 : decode cX6_within 18 = .ok (.ireturn, 1) := by decide +kernel
theorem dX6_bring_0 : decode cX6_bring 0 = .ok (.iconst 0, 1) := by decide +kernel
theorem dX6_bring_1 : decode cX6_bring 1 = .ok (.istore 5, 2) := by decide +kernel
theorem dX6_bring_3 : decode cX6_bring 3 = .ok (.iload 5, 2) := by decide +kernel
theorem dX6_bring_5 : decode cX6_bring 5 = .ok (.iload 4, 2) := by decide +kernel
theorem dX6_bring_7 : decode cX6_bring 7 = .ok (.if_icmp .ge 21, 3) := by decide +kernel
theorem dX6_bring_10 : decode cX6_bring 10 = .ok (.aload_n 2, 1) := by decide +kernel
theorem dX6_bring_11 : decode cX6_bring 11 = .ok (.iload_n 3, 1) := by decide +kernel
theorem dX6_bring_12 : decode cX6_bring 12 = .ok (.iload 5, 2) := by decide +kernel
theorem dX6_bring_14 : decode cX6_bring 14 = .ok (.iadd, 1) := by decide +kernel
theorem dX6_bring_15 : decode cX6_bring 15 = .ok (.aload_n 0, 1) := by decide +kernel
theorem dX6_bring_16 : decode cX6_bring 16 = .ok (.iload_n 1, 1) := by decide +kernel
theorem dX6_bring_17 : decode cX6_bring 17 = .ok (.iload 5, 2) := by decide +kernel
theorem dX6_bring_19 : decode cX6_bring 19 = .ok (.iadd, 1) := by decide +kernel
theorem dX6_bring_20 : decode cX6_bring 20 = .ok (.iaload, 1) := by decide +kernel
theorem dX6_bring_21 : decode cX6_bring 21 = .ok (.iastore, 1) := by decide +kernel
theorem dX6_bring_22 : decode cX6_bring 22 = .ok (.iinc 5 1, 3) := by decide +kernel
theorem dX6_bring_25 : decode cX6_bring 25 = .ok (.goto (-22), 3) := by decide +kernel
theorem dX6_bring_28 : decode cX6_bring 28 = .ok (.return_, 1) := by decide +kernel
theorem dX6_isMirror_0 : decode cX6_isMirror 0 = .ok (.iconst 1, 1) := by decide +kernel
theorem dX6_isMirror_1 : decode cX6_isMirror 1 = .ok (.istore_n 3, 1) := by decide +kernel
theorem dX6_isMirror_2 : decode cX6_isMirror 2 = .ok (.iconst 0, 1) := by decide +kernel
theorem dX6_isMirror_3 : decode cX6_isMirror 3 = .ok (.istore 4, 2) := by decide +kernel
theorem dX6_isMirror_5 : decode cX6_isMirror 5 = .ok (.iload 4, 2) := by decide +kernel
theorem dX6_isMirror_7 : decode cX6_isMirror 7 = .ok (.iload_n 2, 1) := by decide +kernel
theorem dX6_isMirror_8 : decode cX6_isMirror 8 = .ok (.iconst 2, 1) := by decide +kernel
theorem dX6_isMirror_9 : decode cX6_isMirror 9 = .ok (.idiv, 1) := by decide +kernel
theorem dX6_isMirror_10 : decode cX6_isMirror 10 = .ok (.if_icmp .ge 44, 3) := by decide +kernel
theorem dX6_isMirror_13 : decode cX6_isMirror 13 = .ok (.iload_n 3, 1) := by decide +kernel
theorem dX6_isMirror_14 : decode cX6_isMirror 14 = .ok (.ifCond .eq 40, 3) := by decide +kernel
theorem dX6_isMirror_17 : decode cX6_isMirror 17 = .ok (.aload_n 0, 1) := by decide +kernel
theorem dX6_isMirror_18 : decode cX6_isMirror 18 = .ok (.getfield 7, 3) := by decide +kernel
theorem dX6_isMirror_21 : decode cX6_isMirror 21 = .ok (.iload_n 1, 1) := by decide +kernel
theorem dX6_isMirror_22 : decode cX6_isMirror 22 = .ok (.iload 4, 2) := by decide +kernel
theorem dX6_isMirror_24 : decode cX6_isMirror 24 = .ok (.iadd, 1) := by decide +kernel
theorem dX6_isMirror_25 : decode cX6_isMirror 25 = .ok (.iaload, 1) := by decide +kernel
theorem dX6_isMirror_26 : decode cX6_isMirror 26 = .ok (.aload_n 0, 1) := by decide +kernel
theorem dX6_isMirror_27 : decode cX6_isMirror 27 = .ok (.getfield 7, 3) := by decide +kernel
theorem dX6_isMirror_30 : decode cX6_isMirror 30 = .ok (.iload_n 1, 1) := by decide +kernel
theorem dX6_isMirror_31 : decode cX6_isMirror 31 = .ok (.iload_n 2, 1) := by decide +kernel
theorem dX6_isMirror_32 : decode cX6_isMirror 32 = .ok (.iadd, 1) := by decide +kernel
theorem dX6_isMirror_33 : decode cX6_isMirror 33 = .ok (.iconst 1, 1) := by decide +kernel
theorem dX6_isMirror_34 : decode cX6_isMirror 34 = .ok (.isub, 1) := by decide +kernel
theorem dX6_isMirror_35 : decode cX6_isMirror 35 = .ok (.iload 4, 2) := by decide +kernel
theorem dX6_isMirror_37 : decode cX6_isMirror 37 = .ok (.isub, 1) := by decide +kernel
theorem dX6_isMirror_38 : decode cX6_isMirror 38 = .ok (.iaload, 1) := by decide +kernel
theorem dX6_isMirror_39 : decode cX6_isMirror 39 = .ok (.if_icmp .ne 7, 3) := by decide +kernel
theorem dX6_isMirror_42 : decode cX6_isMirror 42 = .ok (.iconst 1, 1) := by decide +kernel
theorem dX6_isMirror_43 : decode cX6_isMirror 43 = .ok (.goto 4, 3) := by decide +kernel
theorem dX6_isMirror_46 : decode cX6_isMirror 46 = .ok (.iconst 0, 1) := by decide +kernel
theorem dX6_isMirror_47 : decode cX6_isMirror 47 = .ok (.istore_n 3, 1) := by decide +kernel
theorem dX6_isMirror_48 : decode cX6_isMirror 48 = .ok (.iinc 4 1, 3) := by decide +kernel
theorem dX6_isMirror_51 : decode cX6_isMirror 51 = .ok (.goto (-46), 3) := by decide +kernel
theorem dX6_isMirror_54 : decode cX6_isMirror 54 = .ok (.iload_n 3, 1) := by decide +kernel
theorem dX6_isMirror_55 : decode cX6_isMirror 55 = .ok (.ireturn, 1) := by decide +kernel
theorem dX6_isSame_0 : decode cX6_isSame 0 = .ok (.iconst 1, 1) := by decide +kernel
theorem dX6_isSame_1 : decode cX6_isSame 1 = .ok (.istore 4, 2) := by decide +kernel
theorem dX6_isSame_3 : decode cX6_isSame 3 = .ok (.iconst 0, 1) := by decide +kernel
theorem dX6_isSame_4 : decode cX6_isSame 4 = .ok (.istore 5, 2) := by decide +kernel
theorem dX6_isSame_6 : decode cX6_isSame 6 = .ok (.iload 5, 2) := by decide +kernel
theorem dX6_isSame_8 : decode cX6_isSame 8 = .ok (.iload_n 3, 1) := by decide +kernel
theorem dX6_isSame_9 : decode cX6_isSame 9 = .ok (.if_icmp .ge 42, 3) := by decide +kernel
theorem dX6_isSame_12 : decode cX6_isSame 12 = .ok (.iload 4, 2) := by decide +kernel
theorem dX6_isSame_14 : decode cX6_isSame 14 = .ok (.ifCond .eq 37, 3) := by decide +kernel
theorem dX6_isSame_17 : decode cX6_isSame 17 = .ok (.aload_n 0, 1) := by decide +kernel
theorem dX6_isSame_18 : decode cX6_isSame 18 = .ok (.getfield 7, 3) := by decide +kernel
theorem dX6_isSame_21 : decode cX6_isSame 21 = .ok (.iload_n 1, 1) := by decide +kernel
theorem dX6_isSame_22 : decode cX6_isSame 22 = .ok (.iload 5, 2) := by decide +kernel
theorem dX6_isSame_24 : decode cX6_isSame 24 = .ok (.iadd, 1) := by decide +kernel
theorem dX6_isSame_25 : decode cX6_isSame 25 = .ok (.iaload, 1) := by decide +kernel
theorem dX6_isSame_26 : decode cX6_isSame 26 = .ok (.aload_n 0, 1) := by decide +kernel
theorem dX6_isSame_27 : decode cX6_isSame 27 = .ok (.getfield 7, 3) := by decide +kernel
theorem dX6_isSame_30 : decode cX6_isSame 30 = .ok (.iload_n 2, 1) := by decide +kernel
theorem dX6_isSame_31 : decode cX6_isSame 31 = .ok (.iload 5, 2) := by decide +kernel
theorem dX6_isSame_33 : decode cX6_isSame 33 = .ok (.iadd, 1) := by decide +kernel
theorem dX6_isSame_34 : decode cX6_isSame 34 = .ok (.iaload, 1) := by decide +kernel
theorem dX6_isSame_35 : decode cX6_isSame 35 = .ok (.if_icmp .ne 7, 3) := by decide +kernel
theorem dX6_isSame_38 : decode cX6_isSame 38 = .ok (.iconst 1, 1) := by decide +kernel
theorem dX6_isSame_39 : decode cX6_isSame 39 = .ok (.goto 4, 3) := by decide +kernel
theorem dX6_isSame_42 : decode cX6_isSame 42 = .ok (.iconst 0, 1) := by decide +kernel
theorem dX6_isSame_43 : decode cX6_isSame 43 = .ok (.istore 4, 2) := by decide +kernel
theorem dX6_isSame_45 : decode cX6_isSame 45 = .ok (.iinc 5 1, 3) := by decide +kernel
theorem dX6_isSame_48 : decode cX6_isSame 48 = .ok (.goto (-42), 3) := by decide +kernel
theorem dX6_isSame_51 : decode cX6_isSame 51 = .ok (.iload 4, 2) := by decide +kernel
theorem dX6_isSame_53 : decode cX6_isSame 53 = .ok (.ireturn, 1) := by decide +kernel
theorem dX6_endsBelow_0 : decode cX6_endsBelow 0 = .ok (.iload_n 2, 1) := by decide +kernel
theorem dX6_endsBelow_1 : decode cX6_endsBelow 1 = .ok (.iconst 1, 1) := by decide +kernel
theorem dX6_endsBelow_2 : decode cX6_endsBelow 2 = .ok (.isub, 1) := by decide +kernel
theorem dX6_endsBelow_3 : decode cX6_endsBelow 3 = .ok (.iload_n 1, 1) := by decide +kernel
theorem dX6_endsBelow_4 : decode cX6_endsBelow 4 = .ok (.iconst 1, 1) := by decide +kernel
theorem dX6_endsBelow_5 : decode cX6_endsBelow 5 = .ok (.iadd, 1) := by decide +kernel
theorem dX6_endsBelow_6 : decode cX6_endsBelow 6 = .ok (.if_icmp .ge 9, 3) := by decide +kernel
theorem dX6_endsBelow_9 : decode cX6_endsBelow 9 = .ok (.iload_n 2, 1) := by decide +kernel
theorem dX6_endsBelow_10 : decode cX6_endsBelow 10 = .ok (.iconst 1, 1) := by decide +kernel
theorem dX6_endsBelow_11 : decode cX6_endsBelow 11 = .ok (.isub, 1) := by decide +kernel
theorem dX6_endsBelow_12 : decode cX6_endsBelow 12 = .ok (.goto 6, 3) := by decide +kernel
theorem dX6_endsBelow_15 : decode cX6_endsBelow 15 = .ok (.iload_n 1, 1) := by decide +kernel
theorem dX6_endsBelow_16 : decode cX6_endsBelow 16 = .ok (.iconst 1, 1) := by decide +kernel
theorem dX6_endsBelow_17 : decode cX6_endsBelow 17 = .ok (.iadd, 1) := by decide +kernel
theorem dX6_endsBelow_18 : decode cX6_endsBelow 18 = .ok (.istore_n 3, 1) := by decide +kernel
theorem dX6_endsBelow_19 : decode cX6_endsBelow 19 = .ok (.iload_n 3, 1) := by decide +kernel
theorem dX6_endsBelow_20 : decode cX6_endsBelow 20 = .ok (.ifCond .le 22, 3) := by decide +kernel
theorem dX6_endsBelow_23 : decode cX6_endsBelow 23 = .ok (.aload_n 0, 1) := by decide +kernel
theorem dX6_endsBelow_24 : decode cX6_endsBelow 24 = .ok (.iload_n 1, 1) := by decide +kernel
theorem dX6_endsBelow_25 : decode cX6_endsBelow 25 = .ok (.iconst 1, 1) := by decide +kernel
theorem dX6_endsBelow_26 : decode cX6_endsBelow 26 = .ok (.iadd, 1) := by decide +kernel
theorem dX6_endsBelow_27 : decode cX6_endsBelow 27 = .ok (.iload_n 3, 1) := by decide +kernel
theorem dX6_endsBelow_28 : decode cX6_endsBelow 28 = .ok (.isub, 1) := by decide +kernel
theorem dX6_endsBelow_29 : decode cX6_endsBelow 29 = .ok (.iload_n 3, 1) := by decide +kernel
theorem dX6_endsBelow_30 : decode cX6_endsBelow 30 = .ok (.invokevirtual 53, 3) := by decide +kernel
theorem dX6_endsBelow_33 : decode cX6_endsBelow 33 = .ok (.ifCond .ne 9, 3) := by decide +kernel
theorem dX6_endsBelow_36 : decode cX6_endsBelow 36 = .ok (.iinc 3 (-1), 3) := by decide +kernel
theorem dX6_endsBelow_39 : decode cX6_endsBelow 39 = .ok (.goto (-20), 3) := by decide +kernel
theorem dX6_endsBelow_42 : decode cX6_endsBelow 42 = .ok (.iload_n 3, 1) := by decide +kernel
theorem dX6_endsBelow_43 : decode cX6_endsBelow 43 = .ok (.ireturn, 1) := by decide +kernel
theorem dX6_isNew_0 : decode cX6_isNew 0 = .ok (.aload_n 0, 1) := by decide +kernel
theorem dX6_isNew_1 : decode cX6_isNew 1 = .ok (.iload_n 1, 1) := by decide +kernel
theorem dX6_isNew_2 : decode cX6_isNew 2 = .ok (.bipush 49, 2) := by decide +kernel
theorem dX6_isNew_4 : decode cX6_isNew 4 = .ok (.invokevirtual 57, 3) := by decide +kernel
theorem dX6_isNew_7 : decode cX6_isNew 7 = .ok (.istore_n 2, 1) := by decide +kernel
theorem dX6_isNew_8 : decode cX6_isNew 8 = .ok (.iload_n 1, 1) := by decide +kernel
theorem dX6_isNew_9 : decode cX6_isNew 9 = .ok (.iconst 1, 1) := by decide +kernel
theorem dX6_isNew_10 : decode cX6_isNew 10 = .ok (.iadd, 1) := by decide +kernel
theorem dX6_isNew_11 : decode cX6_isNew 11 = .ok (.iload_n 2, 1) := by decide +kernel
theorem dX6_isNew_12 : decode cX6_isNew 12 = .ok (.isub, 1) := by decide +kernel
theorem dX6_isNew_13 : decode cX6_isNew 13 = .ok (.istore_n 3, 1) := by decide +kernel
theorem dX6_isNew_14 : decode cX6_isNew 14 = .ok (.iconst 1, 1) := by decide +kernel
theorem dX6_isNew_15 : decode cX6_isNew 15 = .ok (.istore 4, 2) := by decide +kernel
theorem dX6_isNew_17 : decode cX6_isNew 17 = .ok (.iconst 0, 1) := by decide +kernel
theorem dX6_isNew_18 : decode cX6_isNew 18 = .ok (.istore 5, 2) := by decide +kernel
theorem dX6_isNew_20 : decode cX6_isNew 20 = .ok (.iload 5, 2) := by decide +kernel
theorem dX6_isNew_22 : decode cX6_isNew 22 = .ok (.iload_n 3, 1) := by decide +kernel
theorem dX6_isNew_23 : decode cX6_isNew 23 = .ok (.if_icmp .ge 32, 3) := by decide +kernel
theorem dX6_isNew_26 : decode cX6_isNew 26 = .ok (.iload 4, 2) := by decide +kernel
theorem dX6_isNew_28 : decode cX6_isNew 28 = .ok (.ifCond .eq 27, 3) := by decide +kernel
theorem dX6_isNew_31 : decode cX6_isNew 31 = .ok (.aload_n 0, 1) := by decide +kernel
theorem dX6_isNew_32 : decode cX6_isNew 32 = .ok (.iload 5, 2) := by decide +kernel
theorem dX6_isNew_34 : decode cX6_isNew 34 = .ok (.iload_n 3, 1) := by decide +kernel
theorem dX6_isNew_35 : decode cX6_isNew 35 = .ok (.iload_n 2, 1) := by decide +kernel
theorem dX6_isNew_36 : decode cX6_isNew 36 = .ok (.invokevirtual 61, 3) := by decide +kernel
theorem dX6_isNew_39 : decode cX6_isNew 39 = .ok (.ifCond .ne 7, 3) := by decide +kernel
theorem dX6_isNew_42 : decode cX6_isNew 42 = .ok (.iconst 1, 1) := by decide +kernel
theorem dX6_isNew_43 : decode cX6_isNew 43 = .ok (.goto 4, 3) := by decide +kernel
theorem dX6_isNew_46 : decode cX6_isNew 46 = .ok (.iconst 0, 1) := by decide +kernel
theorem dX6_isNew_47 : decode cX6_isNew 47 = .ok (.istore 4, 2) := by decide +kernel
theorem dX6_isNew_49 : decode cX6_isNew 49 = .ok (.iinc 5 1, 3) := by decide +kernel
theorem dX6_isNew_52 : decode cX6_isNew 52 = .ok (.goto (-32), 3) := by decide +kernel
theorem dX6_isNew_55 : decode cX6_isNew 55 = .ok (.iload 4, 2) := by decide +kernel
theorem dX6_isNew_57 : decode cX6_isNew 57 = .ok (.ireturn, 1) := by decide +kernel
theorem dX6_lay_0 : decode cX6_lay 0 = .ok (.aload_n 0, 1) := by decide +kernel
theorem dX6_lay_1 : decode cX6_lay 1 = .ok (.iconst 0, 1) := by decide +kernel
theorem dX6_lay_2 : decode cX6_lay 2 = .ok (.putfield 65, 3) := by decide +kernel
theorem dX6_lay_5 : decode cX6_lay 5 = .ok (.iconst 0, 1) := by decide +kernel
theorem dX6_lay_6 : decode cX6_lay 6 = .ok (.istore_n 1, 1) := by decide +kernel
theorem dX6_lay_7 : decode cX6_lay 7 = .ok (.iload_n 1, 1) := by decide +kernel
theorem dX6_lay_8 : decode cX6_lay 8 = .ok (.aload_n 0, 1) := by decide +kernel
theorem dX6_lay_9 : decode cX6_lay 9 = .ok (.getfield 69, 3) := by decide +kernel
theorem dX6_lay_12 : decode cX6_lay 12 = .ok (.if_icmp .ge 65, 3) := by decide +kernel
theorem dX6_lay_15 : decode cX6_lay 15 = .ok (.aload_n 0, 1) := by decide +kernel
theorem dX6_lay_16 : decode cX6_lay 16 = .ok (.iload_n 1, 1) := by decide +kernel
theorem dX6_lay_17 : decode cX6_lay 17 = .ok (.invokevirtual 72, 3) := by decide +kernel
theorem dX6_lay_20 : decode cX6_lay 20 = .ok (.ifCond .eq 51, 3) := by decide +kernel
theorem dX6_lay_23 : decode cX6_lay 23 = .ok (.aload_n 0, 1) := by decide +kernel
theorem dX6_lay_24 : decode cX6_lay 24 = .ok (.getfield 41, 3) := by decide +kernel
theorem dX6_lay_27 : decode cX6_lay 27 = .ok (.aload_n 0, 1) := by decide +kernel
theorem dX6_lay_28 : decode cX6_lay 28 = .ok (.getfield 65, 3) := by decide +kernel
theorem dX6_lay_31 : decode cX6_lay 31 = .ok (.aload_n 0, 1) := by decide +kernel
theorem dX6_lay_32 : decode cX6_lay 32 = .ok (.iload_n 1, 1) := by decide +kernel
theorem dX6_lay_33 : decode cX6_lay 33 = .ok (.bipush 49, 2) := by decide +kernel
theorem dX6_lay_35 : decode cX6_lay 35 = .ok (.invokevirtual 57, 3) := by decide +kernel
theorem dX6_lay_38 : decode cX6_lay 38 = .ok (.iastore, 1) := by decide +kernel
theorem dX6_lay_39 : decode cX6_lay 39 = .ok (.aload_n 0, 1) := by decide +kernel
theorem dX6_lay_40 : decode cX6_lay 40 = .ok (.getfield 38, 3) := by decide +kernel
theorem dX6_lay_43 : decode cX6_lay 43 = .ok (.aload_n 0, 1) := by decide +kernel
theorem dX6_lay_44 : decode cX6_lay 44 = .ok (.getfield 65, 3) := by decide +kernel
theorem dX6_lay_47 : decode cX6_lay 47 = .ok (.iload_n 1, 1) := by decide +kernel
theorem dX6_lay_48 : decode cX6_lay 48 = .ok (.iconst 1, 1) := by decide +kernel
theorem dX6_lay_49 : decode cX6_lay 49 = .ok (.iadd, 1) := by decide +kernel
theorem dX6_lay_50 : decode cX6_lay 50 = .ok (.aload_n 0, 1) := by decide +kernel
theorem dX6_lay_51 : decode cX6_lay 51 = .ok (.getfield 41, 3) := by decide +kernel
theorem dX6_lay_54 : decode cX6_lay 54 = .ok (.aload_n 0, 1) := by decide +kernel
theorem dX6_lay_55 : decode cX6_lay 55 = .ok (.getfield 65, 3) := by decide +kernel
theorem dX6_lay_58 : decode cX6_lay 58 = .ok (.iaload, 1) := by decide +kernel
theorem dX6_lay_59 : decode cX6_lay 59 = .ok (.isub, 1) := by decide +kernel
theorem dX6_lay_60 : decode cX6_lay 60 = .ok (.iastore, 1) := by decide +kernel
theorem dX6_lay_61 : decode cX6_lay 61 = .ok (.aload_n 0, 1) := by decide +kernel
theorem dX6_lay_62 : decode cX6_lay 62 = .ok (.dup, 1) := by decide +kernel
theorem dX6_lay_63 : decode cX6_lay 63 = .ok (.getfield 65, 3) := by decide +kernel
theorem dX6_lay_66 : decode cX6_lay 66 = .ok (.iconst 1, 1) := by decide +kernel
theorem dX6_lay_67 : decode cX6_lay 67 = .ok (.iadd, 1) := by decide +kernel
theorem dX6_lay_68 : decode cX6_lay 68 = .ok (.putfield 65, 3) := by decide +kernel
theorem dX6_lay_71 : decode cX6_lay 71 = .ok (.iinc 1 1, 3) := by decide +kernel
theorem dX6_lay_74 : decode cX6_lay 74 = .ok (.goto (-67), 3) := by decide +kernel
theorem dX6_lay_77 : decode cX6_lay 77 = .ok (.return_, 1) := by decide +kernel
theorem dX6_nodeOf_0 : decode cX6_nodeOf 0 = .ok (.iconst 0, 1) := by decide +kernel
theorem dX6_nodeOf_1 : decode cX6_nodeOf 1 = .ok (.istore_n 3, 1) := by decide +kernel
theorem dX6_nodeOf_2 : decode cX6_nodeOf 2 = .ok (.aload_n 0, 1) := by decide +kernel
theorem dX6_nodeOf_3 : decode cX6_nodeOf 3 = .ok (.getfield 41, 3) := by decide +kernel
theorem dX6_nodeOf_6 : decode cX6_nodeOf 6 = .ok (.iload_n 3, 1) := by decide +kernel
theorem dX6_nodeOf_7 : decode cX6_nodeOf 7 = .ok (.iaload, 1) := by decide +kernel
theorem dX6_nodeOf_8 : decode cX6_nodeOf 8 = .ok (.iload_n 2, 1) := by decide +kernel
theorem dX6_nodeOf_9 : decode cX6_nodeOf 9 = .ok (.if_icmp .ne 18, 3) := by decide +kernel
theorem dX6_nodeOf_12 : decode cX6_nodeOf 12 = .ok (.aload_n 0, 1) := by decide +kernel
theorem dX6_nodeOf_13 : decode cX6_nodeOf 13 = .ok (.aload_n 0, 1) := by decide +kernel
theorem dX6_nodeOf_14 : decode cX6_nodeOf 14 = .ok (.getfield 38, 3) := by decide +kernel
theorem dX6_nodeOf_17 : decode cX6_nodeOf 17 = .ok (.iload_n 3, 1) := by decide +kernel
theorem dX6_nodeOf_18 : decode cX6_nodeOf 18 = .ok (.iaload, 1) := by decide +kernel
theorem dX6_nodeOf_19 : decode cX6_nodeOf 19 = .ok (.iload_n 1, 1) := by decide +kernel
theorem dX6_nodeOf_20 : decode cX6_nodeOf 20 = .ok (.iload_n 2, 1) := by decide +kernel
theorem dX6_nodeOf_21 : decode cX6_nodeOf 21 = .ok (.invokevirtual 61, 3) := by decide +kernel
theorem dX6_nodeOf_24 : decode cX6_nodeOf 24 = .ok (.ifCond .ne 9, 3) := by decide +kernel
theorem dX6_nodeOf_27 : decode cX6_nodeOf 27 = .ok (.iinc 3 1, 3) := by decide +kernel
theorem dX6_nodeOf_30 : decode cX6_nodeOf 30 = .ok (.goto (-28), 3) := by decide +kernel
theorem dX6_nodeOf_33 : decode cX6_nodeOf 33 = .ok (.iload_n 3, 1) := by decide +kernel
theorem dX6_nodeOf_34 : decode cX6_nodeOf 34 = .ok (.ireturn, 1) := by decide +kernel
theorem dX6_stands_0 : decode cX6_stands 0 = .ok (.iconst 0, 1) := by decide +kernel
theorem dX6_stands_1 : decode cX6_stands 1 = .ok (.istore 4, 2) := by decide +kernel
theorem dX6_stands_3 : decode cX6_stands 3 = .ok (.iload_n 1, 1) := by decide +kernel
theorem dX6_stands_4 : decode cX6_stands 4 = .ok (.istore 5, 2) := by decide +kernel
theorem dX6_stands_6 : decode cX6_stands 6 = .ok (.iconst 0, 1) := by decide +kernel
theorem dX6_stands_7 : decode cX6_stands 7 = .ok (.istore 6, 2) := by decide +kernel
theorem dX6_stands_9 : decode cX6_stands 9 = .ok (.iload 6, 2) := by decide +kernel
theorem dX6_stands_11 : decode cX6_stands 11 = .ok (.iload_n 2, 1) := by decide +kernel
theorem dX6_stands_12 : decode cX6_stands 12 = .ok (.iadd, 1) := by decide +kernel
theorem dX6_stands_13 : decode cX6_stands 13 = .ok (.aload_n 0, 1) := by decide +kernel
theorem dX6_stands_14 : decode cX6_stands 14 = .ok (.getfield 69, 3) := by decide +kernel
theorem dX6_stands_17 : decode cX6_stands 17 = .ok (.if_icmp .gt 48, 3) := by decide +kernel
theorem dX6_stands_20 : decode cX6_stands 20 = .ok (.aload_n 0, 1) := by decide +kernel
theorem dX6_stands_21 : decode cX6_stands 21 = .ok (.iload 6, 2) := by decide +kernel
theorem dX6_stands_23 : decode cX6_stands 23 = .ok (.iload_n 1, 1) := by decide +kernel
theorem dX6_stands_24 : decode cX6_stands 24 = .ok (.iload_n 2, 1) := by decide +kernel
theorem dX6_stands_25 : decode cX6_stands 25 = .ok (.invokevirtual 61, 3) := by decide +kernel
theorem dX6_stands_28 : decode cX6_stands 28 = .ok (.istore 7, 2) := by decide +kernel
theorem dX6_stands_30 : decode cX6_stands 30 = .ok (.iload 4, 2) := by decide +kernel
theorem dX6_stands_32 : decode cX6_stands 32 = .ok (.iload 7, 2) := by decide +kernel
theorem dX6_stands_34 : decode cX6_stands 34 = .ok (.ifCond .eq 7, 3) := by decide +kernel
theorem dX6_stands_37 : decode cX6_stands 37 = .ok (.iconst 1, 1) := by decide +kernel
theorem dX6_stands_38 : decode cX6_stands 38 = .ok (.goto 4, 3) := by decide +kernel
theorem dX6_stands_41 : decode cX6_stands 41 = .ok (.iconst 0, 1) := by decide +kernel
theorem dX6_stands_42 : decode cX6_stands 42 = .ok (.iadd, 1) := by decide +kernel
theorem dX6_stands_43 : decode cX6_stands 43 = .ok (.istore 4, 2) := by decide +kernel
theorem dX6_stands_45 : decode cX6_stands 45 = .ok (.iload 7, 2) := by decide +kernel
theorem dX6_stands_47 : decode cX6_stands 47 = .ok (.ifCond .eq 8, 3) := by decide +kernel
theorem dX6_stands_50 : decode cX6_stands 50 = .ok (.iload 6, 2) := by decide +kernel
theorem dX6_stands_52 : decode cX6_stands 52 = .ok (.goto 5, 3) := by decide +kernel
theorem dX6_stands_55 : decode cX6_stands 55 = .ok (.iload 5, 2) := by decide +kernel
theorem dX6_stands_57 : decode cX6_stands 57 = .ok (.istore 5, 2) := by decide +kernel
theorem dX6_stands_59 : decode cX6_stands 59 = .ok (.iinc 6 1, 3) := by decide +kernel
theorem dX6_stands_62 : decode cX6_stands 62 = .ok (.goto (-53), 3) := by decide +kernel
theorem dX6_stands_65 : decode cX6_stands 65 = .ok (.iload_n 3, 1) := by decide +kernel
theorem dX6_stands_66 : decode cX6_stands 66 = .ok (.iconst 3, 1) := by decide +kernel
theorem dX6_stands_67 : decode cX6_stands 67 = .ok (.if_icmp .ne 8, 3) := by decide +kernel
theorem dX6_stands_70 : decode cX6_stands 70 = .ok (.iload 4, 2) := by decide +kernel
theorem dX6_stands_72 : decode cX6_stands 72 = .ok (.goto 5, 3) := by decide +kernel
theorem dX6_stands_75 : decode cX6_stands 75 = .ok (.iload 5, 2) := by decide +kernel
theorem dX6_stands_77 : decode cX6_stands 77 = .ok (.ireturn, 1) := by decide +kernel
theorem dX6_link_0 : decode cX6_link 0 = .ok (.aload_n 0, 1) := by decide +kernel
theorem dX6_link_1 : decode cX6_link 1 = .ok (.getfield 38, 3) := by decide +kernel
theorem dX6_link_4 : decode cX6_link 4 = .ok (.iload_n 1, 1) := by decide +kernel
theorem dX6_link_5 : decode cX6_link 5 = .ok (.iaload, 1) := by decide +kernel
theorem dX6_link_6 : decode cX6_link 6 = .ok (.aload_n 0, 1) := by decide +kernel
theorem dX6_link_7 : decode cX6_link 7 = .ok (.getfield 41, 3) := by decide +kernel
theorem dX6_link_10 : decode cX6_link 10 = .ok (.iload_n 1, 1) := by decide +kernel
theorem dX6_link_11 : decode cX6_link 11 = .ok (.iaload, 1) := by decide +kernel
theorem dX6_link_12 : decode cX6_link 12 = .ok (.iadd, 1) := by decide +kernel
theorem dX6_link_13 : decode cX6_link 13 = .ok (.iconst 1, 1) := by decide +kernel
theorem dX6_link_14 : decode cX6_link 14 = .ok (.isub, 1) := by decide +kernel
theorem dX6_link_15 : decode cX6_link 15 = .ok (.istore_n 2, 1) := by decide +kernel
theorem dX6_link_16 : decode cX6_link 16 = .ok (.aload_n 0, 1) := by decide +kernel
theorem dX6_link_17 : decode cX6_link 17 = .ok (.iload_n 2, 1) := by decide +kernel
theorem dX6_link_18 : decode cX6_link 18 = .ok (.aload_n 0, 1) := by decide +kernel
theorem dX6_link_19 : decode cX6_link 19 = .ok (.getfield 41, 3) := by decide +kernel
theorem dX6_link_22 : decode cX6_link 22 = .ok (.iload_n 1, 1) := by decide +kernel
theorem dX6_link_23 : decode cX6_link 23 = .ok (.iaload, 1) := by decide +kernel
theorem dX6_link_24 : decode cX6_link 24 = .ok (.invokevirtual 57, 3) := by decide +kernel
theorem dX6_link_27 : decode cX6_link 27 = .ok (.istore_n 3, 1) := by decide +kernel
theorem dX6_link_28 : decode cX6_link 28 = .ok (.iload_n 3, 1) := by decide +kernel
theorem dX6_link_29 : decode cX6_link 29 = .ok (.ifCond .ne 8, 3) := by decide +kernel
theorem dX6_link_32 : decode cX6_link 32 = .ok (.bipush (-4), 2) := by decide +kernel
theorem dX6_link_34 : decode cX6_link 34 = .ok (.goto 13, 3) := by decide +kernel
theorem dX6_link_37 : decode cX6_link 37 = .ok (.aload_n 0, 1) := by decide +kernel
theorem dX6_link_38 : decode cX6_link 38 = .ok (.iload_n 2, 1) := by decide +kernel
theorem dX6_link_39 : decode cX6_link 39 = .ok (.iconst 1, 1) := by decide +kernel
theorem dX6_link_40 : decode cX6_link 40 = .ok (.iadd, 1) := by decide +kernel
theorem dX6_link_41 : decode cX6_link 41 = .ok (.iload_n 3, 1) := by decide +kernel
theorem dX6_link_42 : decode cX6_link 42 = .ok (.isub, 1) := by decide +kernel
theorem dX6_link_43 : decode cX6_link 43 = .ok (.iload_n 3, 1) := by decide +kernel
theorem dX6_link_44 : decode cX6_link 44 = .ok (.invokevirtual 76, 3) := by decide +kernel
theorem dX6_link_47 : decode cX6_link 47 = .ok (.ireturn, 1) := by decide +kernel
theorem dX6_less_0 : decode cX6_less 0 = .ok (.aload_n 0, 1) := by decide +kernel
theorem dX6_less_1 : decode cX6_less 1 = .ok (.iload_n 1, 1) := by decide +kernel
theorem dX6_less_2 : decode cX6_less 2 = .ok (.invokevirtual 79, 3) := by decide +kernel
theorem dX6_less_5 : decode cX6_less 5 = .ok (.istore_n 2, 1) := by decide +kernel
theorem dX6_less_6 : decode cX6_less 6 = .ok (.iload_n 2, 1) := by decide +kernel
theorem dX6_less_7 : decode cX6_less 7 = .ok (.bipush (-4), 2) := by decide +kernel
theorem dX6_less_9 : decode cX6_less 9 = .ok (.if_icmp .ne 12, 3) := by decide +kernel
theorem dX6_less_12 : decode cX6_less 12 = .ok (.aload_n 0, 1) := by decide +kernel
theorem dX6_less_13 : decode cX6_less 13 = .ok (.getfield 41, 3) := by decide +kernel
theorem dX6_less_16 : decode cX6_less 16 = .ok (.iload_n 1, 1) := by decide +kernel
theorem dX6_less_17 : decode cX6_less 17 = .ok (.iaload, 1) := by decide +kernel
theorem dX6_less_18 : decode cX6_less 18 = .ok (.goto 16, 3) := by decide +kernel
theorem dX6_less_21 : decode cX6_less 21 = .ok (.aload_n 0, 1) := by decide +kernel
theorem dX6_less_22 : decode cX6_less 22 = .ok (.getfield 41, 3) := by decide +kernel
theorem dX6_less_25 : decode cX6_less 25 = .ok (.iload_n 1, 1) := by decide +kernel
theorem dX6_less_26 : decode cX6_less 26 = .ok (.iaload, 1) := by decide +kernel
theorem dX6_less_27 : decode cX6_less 27 = .ok (.aload_n 0, 1) := by decide +kernel
theorem dX6_less_28 : decode cX6_less 28 = .ok (.getfield 41, 3) := by decide +kernel
theorem dX6_less_31 : decode cX6_less 31 = .ok (.iload_n 2, 1) := by decide +kernel
theorem dX6_less_32 : decode cX6_less 32 = .ok (.iaload, 1) := by decide +kernel
theorem dX6_less_33 : decode cX6_less 33 = .ok (.isub, 1) := by decide +kernel
theorem dX6_less_34 : decode cX6_less 34 = .ok (.ireturn, 1) := by decide +kernel
theorem dX6_series_0 : decode cX6_series 0 = .ok (.aload_n 0, 1) := by decide +kernel
theorem dX6_series_1 : decode cX6_series 1 = .ok (.iload_n 1, 1) := by decide +kernel
theorem dX6_series_2 : decode cX6_series 2 = .ok (.invokevirtual 83, 3) := by decide +kernel
theorem dX6_series_5 : decode cX6_series 5 = .ok (.istore_n 2, 1) := by decide +kernel
theorem dX6_series_6 : decode cX6_series 6 = .ok (.aload_n 0, 1) := by decide +kernel
theorem dX6_series_7 : decode cX6_series 7 = .ok (.iload_n 1, 1) := by decide +kernel
theorem dX6_series_8 : decode cX6_series 8 = .ok (.invokevirtual 79, 3) := by decide +kernel
theorem dX6_series_11 : decode cX6_series 11 = .ok (.istore_n 3, 1) := by decide +kernel
theorem dX6_series_12 : decode cX6_series 12 = .ok (.iload_n 3, 1) := by decide +kernel
theorem dX6_series_13 : decode cX6_series 13 = .ok (.bipush (-4), 2) := by decide +kernel
theorem dX6_series_15 : decode cX6_series 15 = .ok (.if_icmp .eq 21, 3) := by decide +kernel
end
section
theorem dX6_series_18 : decode cX6_series 18 = .ok (.aload_n 0, 1) := by decide +kernel
theorem dX6_series_19 : decode cX6_series 19 = .ok (.iload_n 3, 1) := by decide +kernel
theorem dX6_series_20 : decode cX6_series 20 = .ok (.invokevirtual 83, 3) := by decide +kernel
theorem dX6_series_23 : decode cX6_series 23 = .ok (.iload_n 2, 1) := by decide +kernel
theorem dX6_series_24 : decode cX6_series 24 = .ok (.if_icmp .ne 12, 3) := by decide +kernel
theorem dX6_series_27 : decode cX6_series 27 = .ok (.aload_n 0, 1) := by decide +kernel
theorem dX6_series_28 : decode cX6_series 28 = .ok (.iload_n 3, 1) := by decide +kernel
theorem dX6_series_29 : decode cX6_series 29 = .ok (.invokevirtual 79, 3) := by decide +kernel
theorem dX6_series_32 : decode cX6_series 32 = .ok (.istore_n 3, 1) := by decide +kernel
theorem dX6_series_33 : decode cX6_series 33 = .ok (.goto (-21), 3) := by decide +kernel
theorem dX6_series_36 : decode cX6_series 36 = .ok (.iload_n 3, 1) := by decide +kernel
theorem dX6_series_37 : decode cX6_series 37 = .ok (.ireturn, 1) := by decide +kernel
theorem dX6_isLetter_0 : decode cX6_isLetter 0 = .ok (.iload_n 0, 1) := by decide +kernel
theorem dX6_isLetter_1 : decode cX6_isLetter 1 = .ok (.i2l, 1) := by decide +kernel
theorem dX6_isLetter_2 : decode cX6_isLetter 2 = .ok (.ldc2_w 86, 3) := by decide +kernel
theorem dX6_isLetter_5 : decode cX6_isLetter 5 = .ok (.ldc2_w 88, 3) := by decide +kernel
theorem dX6_isLetter_8 : decode cX6_isLetter 8 = .ok (.invokestatic 90, 3) := by decide +kernel
theorem dX6_isLetter_11 : decode cX6_isLetter 11 = .ok (.ireturn, 1) := by decide +kernel
theorem dX6_note_0 : decode cX6_note 0 = .ok (.aload_n 0, 1) := by decide +kernel
theorem dX6_note_1 : decode cX6_note 1 = .ok (.getfield 94, 3) := by decide +kernel
theorem dX6_note_4 : decode cX6_note 4 = .ok (.bipush 24, 2) := by decide +kernel
theorem dX6_note_6 : decode cX6_note 6 = .ok (.if_icmp .ne 28, 3) := by decide +kernel
theorem dX6_note_9 : decode cX6_note 9 = .ok (.aload_n 0, 1) := by decide +kernel
theorem dX6_note_10 : decode cX6_note 10 = .ok (.getfield 13, 3) := by decide +kernel
theorem dX6_note_13 : decode cX6_note 13 = .ok (.iconst 1, 1) := by decide +kernel
theorem dX6_note_14 : decode cX6_note 14 = .ok (.aload_n 0, 1) := by decide +kernel
theorem dX6_note_15 : decode cX6_note 15 = .ok (.getfield 13, 3) := by decide +kernel
theorem dX6_note_18 : decode cX6_note 18 = .ok (.iconst 0, 1) := by decide +kernel
theorem dX6_note_19 : decode cX6_note 19 = .ok (.bipush 23, 2) := by decide +kernel
theorem dX6_note_21 : decode cX6_note 21 = .ok (.invokestatic 97, 3) := by decide +kernel
theorem dX6_note_24 : decode cX6_note 24 = .ok (.aload_n 0, 1) := by decide +kernel
theorem dX6_note_25 : decode cX6_note 25 = .ok (.dup, 1) := by decide +kernel
theorem dX6_note_26 : decode cX6_note 26 = .ok (.getfield 94, 3) := by decide +kernel
theorem dX6_note_29 : decode cX6_note 29 = .ok (.iconst 1, 1) := by decide +kernel
theorem dX6_note_30 : decode cX6_note 30 = .ok (.isub, 1) := by decide +kernel
theorem dX6_note_31 : decode cX6_note 31 = .ok (.putfield 94, 3) := by decide +kernel
theorem dX6_note_34 : decode cX6_note 34 = .ok (.aload_n 0, 1) := by decide +kernel
theorem dX6_note_35 : decode cX6_note 35 = .ok (.getfield 13, 3) := by decide +kernel
theorem dX6_note_38 : decode cX6_note 38 = .ok (.aload_n 0, 1) := by decide +kernel
theorem dX6_note_39 : decode cX6_note 39 = .ok (.getfield 94, 3) := by decide +kernel
theorem dX6_note_42 : decode cX6_note 42 = .ok (.iload_n 1, 1) := by decide +kernel
theorem dX6_note_43 : decode cX6_note 43 = .ok (.iastore, 1) := by decide +kernel
theorem dX6_note_44 : decode cX6_note 44 = .ok (.aload_n 0, 1) := by decide +kernel
theorem dX6_note_45 : decode cX6_note 45 = .ok (.dup, 1) := by decide +kernel
theorem dX6_note_46 : decode cX6_note 46 = .ok (.getfield 94, 3) := by decide +kernel
theorem dX6_note_49 : decode cX6_note 49 = .ok (.iconst 1, 1) := by decide +kernel
theorem dX6_note_50 : decode cX6_note 50 = .ok (.iadd, 1) := by decide +kernel
theorem dX6_note_51 : decode cX6_note 51 = .ok (.putfield 94, 3) := by decide +kernel
theorem dX6_note_54 : decode cX6_note 54 = .ok (.return_, 1) := by decide +kernel
theorem dX6_push_0 : decode cX6_push 0 = .ok (.aload_n 0, 1) := by decide +kernel
theorem dX6_push_1 : decode cX6_push 1 = .ok (.getfield 7, 3) := by decide +kernel
theorem dX6_push_4 : decode cX6_push 4 = .ok (.aload_n 0, 1) := by decide +kernel
theorem dX6_push_5 : decode cX6_push 5 = .ok (.getfield 69, 3) := by decide +kernel
theorem dX6_push_8 : decode cX6_push 8 = .ok (.iload_n 1, 1) := by decide +kernel
theorem dX6_push_9 : decode cX6_push 9 = .ok (.iastore, 1) := by decide +kernel
theorem dX6_push_10 : decode cX6_push 10 = .ok (.aload_n 0, 1) := by decide +kernel
theorem dX6_push_11 : decode cX6_push 11 = .ok (.dup, 1) := by decide +kernel
theorem dX6_push_12 : decode cX6_push 12 = .ok (.getfield 69, 3) := by decide +kernel
theorem dX6_push_15 : decode cX6_push 15 = .ok (.iconst 1, 1) := by decide +kernel
theorem dX6_push_16 : decode cX6_push 16 = .ok (.iadd, 1) := by decide +kernel
theorem dX6_push_17 : decode cX6_push 17 = .ok (.putfield 69, 3) := by decide +kernel
theorem dX6_push_20 : decode cX6_push 20 = .ok (.return_, 1) := by decide +kernel
theorem dX6_put_0 : decode cX6_put 0 = .ok (.iload_n 1, 1) := by decide +kernel
theorem dX6_put_1 : decode cX6_put 1 = .ok (.invokestatic 101, 3) := by decide +kernel
theorem dX6_put_4 : decode cX6_put 4 = .ok (.ifCond .ne 5, 3) := by decide +kernel
theorem dX6_put_7 : decode cX6_put 7 = .ok (.iconst (-1), 1) := by decide +kernel
theorem dX6_put_8 : decode cX6_put 8 = .ok (.ireturn, 1) := by decide +kernel
theorem dX6_put_9 : decode cX6_put 9 = .ok (.aload_n 0, 1) := by decide +kernel
theorem dX6_put_10 : decode cX6_put 10 = .ok (.getfield 69, 3) := by decide +kernel
theorem dX6_put_13 : decode cX6_put 13 = .ok (.bipush 48, 2) := by decide +kernel
theorem dX6_put_15 : decode cX6_put 15 = .ok (.if_icmp .ne 6, 3) := by decide +kernel
theorem dX6_put_18 : decode cX6_put 18 = .ok (.bipush (-3), 2) := by decide +kernel
theorem dX6_put_20 : decode cX6_put 20 = .ok (.ireturn, 1) := by decide +kernel
theorem dX6_put_21 : decode cX6_put 21 = .ok (.aload_n 0, 1) := by decide +kernel
theorem dX6_put_22 : decode cX6_put 22 = .ok (.iconst 0, 1) := by decide +kernel
theorem dX6_put_23 : decode cX6_put 23 = .ok (.invokevirtual 104, 3) := by decide +kernel
theorem dX6_put_26 : decode cX6_put 26 = .ok (.aload_n 0, 1) := by decide +kernel
theorem dX6_put_27 : decode cX6_put 27 = .ok (.iload_n 1, 1) := by decide +kernel
theorem dX6_put_28 : decode cX6_put 28 = .ok (.bipush 97, 2) := by decide +kernel
theorem dX6_put_30 : decode cX6_put 30 = .ok (.isub, 1) := by decide +kernel
theorem dX6_put_31 : decode cX6_put 31 = .ok (.invokevirtual 108, 3) := by decide +kernel
theorem dX6_put_34 : decode cX6_put 34 = .ok (.aload_n 0, 1) := by decide +kernel
theorem dX6_put_35 : decode cX6_put 35 = .ok (.aload_n 0, 1) := by decide +kernel
theorem dX6_put_36 : decode cX6_put 36 = .ok (.getfield 69, 3) := by decide +kernel
theorem dX6_put_39 : decode cX6_put 39 = .ok (.iconst 1, 1) := by decide +kernel
theorem dX6_put_40 : decode cX6_put 40 = .ok (.isub, 1) := by decide +kernel
theorem dX6_put_41 : decode cX6_put 41 = .ok (.bipush 49, 2) := by decide +kernel
theorem dX6_put_43 : decode cX6_put 43 = .ok (.invokevirtual 57, 3) := by decide +kernel
theorem dX6_put_46 : decode cX6_put 46 = .ok (.ireturn, 1) := by decide +kernel
theorem dX6_pop_0 : decode cX6_pop 0 = .ok (.aload_n 0, 1) := by decide +kernel
theorem dX6_pop_1 : decode cX6_pop 1 = .ok (.getfield 69, 3) := by decide +kernel
theorem dX6_pop_4 : decode cX6_pop 4 = .ok (.ifCond .ne 6, 3) := by decide +kernel
theorem dX6_pop_7 : decode cX6_pop 7 = .ok (.bipush (-2), 2) := by decide +kernel
theorem dX6_pop_9 : decode cX6_pop 9 = .ok (.ireturn, 1) := by decide +kernel
theorem dX6_pop_10 : decode cX6_pop 10 = .ok (.aload_n 0, 1) := by decide +kernel
theorem dX6_pop_11 : decode cX6_pop 11 = .ok (.dup, 1) := by decide +kernel
theorem dX6_pop_12 : decode cX6_pop 12 = .ok (.getfield 69, 3) := by decide +kernel
theorem dX6_pop_15 : decode cX6_pop 15 = .ok (.iconst 1, 1) := by decide +kernel
theorem dX6_pop_16 : decode cX6_pop 16 = .ok (.isub, 1) := by decide +kernel
theorem dX6_pop_17 : decode cX6_pop 17 = .ok (.putfield 69, 3) := by decide +kernel
theorem dX6_pop_20 : decode cX6_pop 20 = .ok (.aload_n 0, 1) := by decide +kernel
theorem dX6_pop_21 : decode cX6_pop 21 = .ok (.iconst 1, 1) := by decide +kernel
theorem dX6_pop_22 : decode cX6_pop 22 = .ok (.aload_n 0, 1) := by decide +kernel
theorem dX6_pop_23 : decode cX6_pop 23 = .ok (.getfield 7, 3) := by decide +kernel
theorem dX6_pop_26 : decode cX6_pop 26 = .ok (.aload_n 0, 1) := by decide +kernel
theorem dX6_pop_27 : decode cX6_pop 27 = .ok (.getfield 69, 3) := by decide +kernel
theorem dX6_pop_30 : decode cX6_pop 30 = .ok (.iaload, 1) := by decide +kernel
theorem dX6_pop_31 : decode cX6_pop 31 = .ok (.iadd, 1) := by decide +kernel
theorem dX6_pop_32 : decode cX6_pop 32 = .ok (.invokevirtual 104, 3) := by decide +kernel
theorem dX6_pop_35 : decode cX6_pop 35 = .ok (.bipush 97, 2) := by decide +kernel
theorem dX6_pop_37 : decode cX6_pop 37 = .ok (.aload_n 0, 1) := by decide +kernel
theorem dX6_pop_38 : decode cX6_pop 38 = .ok (.getfield 7, 3) := by decide +kernel
theorem dX6_pop_41 : decode cX6_pop 41 = .ok (.aload_n 0, 1) := by decide +kernel
theorem dX6_pop_42 : decode cX6_pop 42 = .ok (.getfield 69, 3) := by decide +kernel
theorem dX6_pop_45 : decode cX6_pop 45 = .ok (.iaload, 1) := by decide +kernel
theorem dX6_pop_46 : decode cX6_pop 46 = .ok (.iadd, 1) := by decide +kernel
theorem dX6_pop_47 : decode cX6_pop 47 = .ok (.ireturn, 1) := by decide +kernel
theorem dX6_change_0 : decode cX6_change 0 = .ok (.iload_n 1, 1) := by decide +kernel
theorem dX6_change_1 : decode cX6_change 1 = .ok (.i2l, 1) := by decide +kernel
theorem dX6_change_2 : decode cX6_change 2 = .ok (.lconst 0, 1) := by decide +kernel
theorem dX6_change_3 : decode cX6_change 3 = .ok (.aload_n 0, 1) := by decide +kernel
theorem dX6_change_4 : decode cX6_change 4 = .ok (.getfield 69, 3) := by decide +kernel
theorem dX6_change_7 : decode cX6_change 7 = .ok (.iconst 1, 1) := by decide +kernel
theorem dX6_change_8 : decode cX6_change 8 = .ok (.isub, 1) := by decide +kernel
theorem dX6_change_9 : decode cX6_change 9 = .ok (.i2l, 1) := by decide +kernel
theorem dX6_change_10 : decode cX6_change 10 = .ok (.invokestatic 90, 3) := by decide +kernel
theorem dX6_change_13 : decode cX6_change 13 = .ok (.ifCond .eq 10, 3) := by decide +kernel
theorem dX6_change_16 : decode cX6_change 16 = .ok (.iload_n 2, 1) := by decide +kernel
theorem dX6_change_17 : decode cX6_change 17 = .ok (.invokestatic 101, 3) := by decide +kernel
theorem dX6_change_20 : decode cX6_change 20 = .ok (.ifCond .ne 5, 3) := by decide +kernel
theorem dX6_change_23 : decode cX6_change 23 = .ok (.iconst (-1), 1) := by decide +kernel
theorem dX6_change_24 : decode cX6_change 24 = .ok (.ireturn, 1) := by decide +kernel
theorem dX6_change_25 : decode cX6_change 25 = .ok (.aload_n 0, 1) := by decide +kernel
theorem dX6_change_26 : decode cX6_change 26 = .ok (.getfield 7, 3) := by decide +kernel
theorem dX6_change_29 : decode cX6_change 29 = .ok (.iload_n 1, 1) := by decide +kernel
theorem dX6_change_30 : decode cX6_change 30 = .ok (.iaload, 1) := by decide +kernel
theorem dX6_change_31 : decode cX6_change 31 = .ok (.istore_n 3, 1) := by decide +kernel
theorem dX6_change_32 : decode cX6_change 32 = .ok (.iload_n 3, 1) := by decide +kernel
theorem dX6_change_33 : decode cX6_change 33 = .ok (.iload_n 2, 1) := by decide +kernel
theorem dX6_change_34 : decode cX6_change 34 = .ok (.bipush 97, 2) := by decide +kernel
theorem dX6_change_36 : decode cX6_change 36 = .ok (.isub, 1) := by decide +kernel
theorem dX6_change_37 : decode cX6_change 37 = .ok (.if_icmp .ne 6, 3) := by decide +kernel
theorem dX6_change_40 : decode cX6_change 40 = .ok (.bipush (-2), 2) := by decide +kernel
theorem dX6_change_42 : decode cX6_change 42 = .ok (.ireturn, 1) := by decide +kernel
theorem dX6_change_43 : decode cX6_change 43 = .ok (.aload_n 0, 1) := by decide +kernel
theorem dX6_change_44 : decode cX6_change 44 = .ok (.bipush 100, 2) := by decide +kernel
theorem dX6_change_46 : decode cX6_change 46 = .ok (.bipush 10, 2) := by decide +kernel
theorem dX6_change_48 : decode cX6_change 48 = .ok (.iload_n 1, 1) := by decide +kernel
theorem dX6_change_49 : decode cX6_change 49 = .ok (.imul, 1) := by decide +kernel
theorem dX6_change_50 : decode cX6_change 50 = .ok (.iadd, 1) := by decide +kernel
theorem dX6_change_51 : decode cX6_change 51 = .ok (.iload_n 3, 1) := by decide +kernel
theorem dX6_change_52 : decode cX6_change 52 = .ok (.iadd, 1) := by decide +kernel
theorem dX6_change_53 : decode cX6_change 53 = .ok (.invokevirtual 104, 3) := by decide +kernel
theorem dX6_change_56 : decode cX6_change 56 = .ok (.aload_n 0, 1) := by decide +kernel
theorem dX6_change_57 : decode cX6_change 57 = .ok (.getfield 7, 3) := by decide +kernel
theorem dX6_change_60 : decode cX6_change 60 = .ok (.iload_n 1, 1) := by decide +kernel
theorem dX6_change_61 : decode cX6_change 61 = .ok (.iload_n 2, 1) := by decide +kernel
theorem dX6_change_62 : decode cX6_change 62 = .ok (.bipush 97, 2) := by decide +kernel
theorem dX6_change_64 : decode cX6_change 64 = .ok (.isub, 1) := by decide +kernel
theorem dX6_change_65 : decode cX6_change 65 = .ok (.iastore, 1) := by decide +kernel
theorem dX6_change_66 : decode cX6_change 66 = .ok (.bipush 97, 2) := by decide +kernel
theorem dX6_change_68 : decode cX6_change 68 = .ok (.iload_n 3, 1) := by decide +kernel
theorem dX6_change_69 : decode cX6_change 69 = .ok (.iadd, 1) := by decide +kernel
theorem dX6_change_70 : decode cX6_change 70 = .ok (.ireturn, 1) := by decide +kernel
theorem dX6_undo_0 : decode cX6_undo 0 = .ok (.aload_n 0, 1) := by decide +kernel
theorem dX6_undo_1 : decode cX6_undo 1 = .ok (.getfield 94, 3) := by decide +kernel
theorem dX6_undo_4 : decode cX6_undo 4 = .ok (.ifCond .ne 6, 3) := by decide +kernel
theorem dX6_undo_7 : decode cX6_undo 7 = .ok (.bipush (-4), 2) := by decide +kernel
theorem dX6_undo_9 : decode cX6_undo 9 = .ok (.ireturn, 1) := by decide +kernel
theorem dX6_undo_10 : decode cX6_undo 10 = .ok (.aload_n 0, 1) := by decide +kernel
theorem dX6_undo_11 : decode cX6_undo 11 = .ok (.dup, 1) := by decide +kernel
theorem dX6_undo_12 : decode cX6_undo 12 = .ok (.getfield 94, 3) := by decide +kernel
theorem dX6_undo_15 : decode cX6_undo 15 = .ok (.iconst 1, 1) := by decide +kernel
theorem dX6_undo_16 : decode cX6_undo 16 = .ok (.isub, 1) := by decide +kernel
theorem dX6_undo_17 : decode cX6_undo 17 = .ok (.putfield 94, 3) := by decide +kernel
theorem dX6_undo_20 : decode cX6_undo 20 = .ok (.aload_n 0, 1) := by decide +kernel
theorem dX6_undo_21 : decode cX6_undo 21 = .ok (.getfield 13, 3) := by decide +kernel
theorem dX6_undo_24 : decode cX6_undo 24 = .ok (.aload_n 0, 1) := by decide +kernel
theorem dX6_undo_25 : decode cX6_undo 25 = .ok (.getfield 94, 3) := by decide +kernel
theorem dX6_undo_28 : decode cX6_undo 28 = .ok (.iaload, 1) := by decide +kernel
theorem dX6_undo_29 : decode cX6_undo 29 = .ok (.istore_n 1, 1) := by decide +kernel
theorem dX6_undo_30 : decode cX6_undo 30 = .ok (.iload_n 1, 1) := by decide +kernel
theorem dX6_undo_31 : decode cX6_undo 31 = .ok (.ifCond .ne 16, 3) := by decide +kernel
theorem dX6_undo_34 : decode cX6_undo 34 = .ok (.aload_n 0, 1) := by decide +kernel
theorem dX6_undo_35 : decode cX6_undo 35 = .ok (.dup, 1) := by decide +kernel
theorem dX6_undo_36 : decode cX6_undo 36 = .ok (.getfield 69, 3) := by decide +kernel
theorem dX6_undo_39 : decode cX6_undo 39 = .ok (.iconst 1, 1) := by decide +kernel
theorem dX6_undo_40 : decode cX6_undo 40 = .ok (.isub, 1) := by decide +kernel
theorem dX6_undo_41 : decode cX6_undo 41 = .ok (.putfield 69, 3) := by decide +kernel
theorem dX6_undo_44 : decode cX6_undo 44 = .ok (.goto 35, 3) := by decide +kernel
theorem dX6_undo_47 : decode cX6_undo 47 = .ok (.iload_n 1, 1) := by decide +kernel
theorem dX6_undo_48 : decode cX6_undo 48 = .ok (.bipush 100, 2) := by decide +kernel
theorem dX6_undo_50 : decode cX6_undo 50 = .ok (.if_icmp .ge 13, 3) := by decide +kernel
theorem dX6_undo_53 : decode cX6_undo 53 = .ok (.aload_n 0, 1) := by decide +kernel
theorem dX6_undo_54 : decode cX6_undo 54 = .ok (.iload_n 1, 1) := by decide +kernel
theorem dX6_undo_55 : decode cX6_undo 55 = .ok (.iconst 1, 1) := by decide +kernel
theorem dX6_undo_56 : decode cX6_undo 56 = .ok (.isub, 1) := by decide +kernel
theorem dX6_undo_57 : decode cX6_undo 57 = .ok (.invokevirtual 108, 3) := by decide +kernel
theorem dX6_undo_60 : decode cX6_undo 60 = .ok (.goto 19, 3) := by decide +kernel
theorem dX6_undo_63 : decode cX6_undo 63 = .ok (.aload_n 0, 1) := by decide +kernel
theorem dX6_undo_64 : decode cX6_undo 64 = .ok (.getfield 7, 3) := by decide +kernel
theorem dX6_undo_67 : decode cX6_undo 67 = .ok (.iload_n 1, 1) := by decide +kernel
theorem dX6_undo_68 : decode cX6_undo 68 = .ok (.bipush 100, 2) := by decide +kernel
theorem dX6_undo_70 : decode cX6_undo 70 = .ok (.isub, 1) := by decide +kernel
theorem dX6_undo_71 : decode cX6_undo 71 = .ok (.bipush 10, 2) := by decide +kernel
theorem dX6_undo_73 : decode cX6_undo 73 = .ok (.idiv, 1) := by decide +kernel
theorem dX6_undo_74 : decode cX6_undo 74 = .ok (.iload_n 1, 1) := by decide +kernel
theorem dX6_undo_75 : decode cX6_undo 75 = .ok (.bipush 10, 2) := by decide +kernel
theorem dX6_undo_77 : decode cX6_undo 77 = .ok (.irem, 1) := by decide +kernel
theorem dX6_undo_78 : decode cX6_undo 78 = .ok (.iastore, 1) := by decide +kernel
theorem dX6_undo_79 : decode cX6_undo 79 = .ok (.aload_n 0, 1) := by decide +kernel
theorem dX6_undo_80 : decode cX6_undo 80 = .ok (.getfield 94, 3) := by decide +kernel
theorem dX6_undo_83 : decode cX6_undo 83 = .ok (.ireturn, 1) := by decide +kernel
theorem dX6_letter_0 : decode cX6_letter 0 = .ok (.iload_n 1, 1) := by decide +kernel
theorem dX6_letter_1 : decode cX6_letter 1 = .ok (.i2l, 1) := by decide +kernel
theorem dX6_letter_2 : decode cX6_letter 2 = .ok (.lconst 0, 1) := by decide +kernel
theorem dX6_letter_3 : decode cX6_letter 3 = .ok (.aload_n 0, 1) := by decide +kernel
theorem dX6_letter_4 : decode cX6_letter 4 = .ok (.getfield 69, 3) := by decide +kernel
theorem dX6_letter_7 : decode cX6_letter 7 = .ok (.iconst 1, 1) := by decide +kernel
theorem dX6_letter_8 : decode cX6_letter 8 = .ok (.isub, 1) := by decide +kernel
theorem dX6_letter_9 : decode cX6_letter 9 = .ok (.i2l, 1) := by decide +kernel
theorem dX6_letter_10 : decode cX6_letter 10 = .ok (.invokestatic 90, 3) := by decide +kernel
theorem dX6_letter_13 : decode cX6_letter 13 = .ok (.ifCond .eq 15, 3) := by decide +kernel
theorem dX6_letter_16 : decode cX6_letter 16 = .ok (.bipush 97, 2) := by decide +kernel
theorem dX6_letter_18 : decode cX6_letter 18 = .ok (.aload_n 0, 1) := by decide +kernel
theorem dX6_letter_19 : decode cX6_letter 19 = .ok (.getfield 7, 3) := by decide +kernel
theorem dX6_letter_22 : decode cX6_letter 22 = .ok (.iload_n 1, 1) := by decide +kernel
theorem dX6_letter_23 : decode cX6_letter 23 = .ok (.iaload, 1) := by decide +kernel
theorem dX6_letter_24 : decode cX6_letter 24 = .ok (.iadd, 1) := by decide +kernel
theorem dX6_letter_25 : decode cX6_letter 25 = .ok (.goto 4, 3) := by decide +kernel
theorem dX6_letter_28 : decode cX6_letter 28 = .ok (.iconst (-1), 1) := by decide +kernel
theorem dX6_letter_29 : decode cX6_letter 29 = .ok (.ireturn, 1) := by decide +kernel
theorem dX6_node_0 : decode cX6_node 0 = .ok (.aload_n 0, 1) := by decide +kernel
theorem dX6_node_1 : decode cX6_node 1 = .ok (.invokevirtual 111, 3) := by decide +kernel
theorem dX6_node_4 : decode cX6_node 4 = .ok (.iload_n 1, 1) := by decide +kernel
theorem dX6_node_5 : decode cX6_node 5 = .ok (.i2l, 1) := by decide +kernel
theorem dX6_node_6 : decode cX6_node 6 = .ok (.lconst 0, 1) := by decide +kernel
theorem dX6_node_7 : decode cX6_node 7 = .ok (.aload_n 0, 1) := by decide +kernel
theorem dX6_node_8 : decode cX6_node 8 = .ok (.getfield 65, 3) := by decide +kernel
theorem dX6_node_11 : decode cX6_node 11 = .ok (.iconst 1, 1) := by decide +kernel
theorem dX6_node_12 : decode cX6_node 12 = .ok (.isub, 1) := by decide +kernel
theorem dX6_node_13 : decode cX6_node 13 = .ok (.i2l, 1) := by decide +kernel
theorem dX6_node_14 : decode cX6_node 14 = .ok (.invokestatic 90, 3) := by decide +kernel
theorem dX6_node_17 : decode cX6_node 17 = .ok (.ifCond .eq 15, 3) := by decide +kernel
theorem dX6_node_20 : decode cX6_node 20 = .ok (.iload_n 2, 1) := by decide +kernel
theorem dX6_node_21 : decode cX6_node 21 = .ok (.i2l, 1) := by decide +kernel
theorem dX6_node_22 : decode cX6_node 22 = .ok (.lconst 0, 1) := by decide +kernel
theorem dX6_node_23 : decode cX6_node 23 = .ok (.ldc2_w 114, 3) := by decide +kernel
theorem dX6_node_26 : decode cX6_node 26 = .ok (.invokestatic 90, 3) := by decide +kernel
theorem dX6_node_29 : decode cX6_node 29 = .ok (.ifCond .ne 5, 3) := by decide +kernel
theorem dX6_node_32 : decode cX6_node 32 = .ok (.iconst (-1), 1) := by decide +kernel
theorem dX6_node_33 : decode cX6_node 33 = .ok (.ireturn, 1) := by decide +kernel
theorem dX6_node_34 : decode cX6_node 34 = .ok (.aload_n 0, 1) := by decide +kernel
theorem dX6_node_35 : decode cX6_node 35 = .ok (.getfield 38, 3) := by decide +kernel
theorem dX6_node_38 : decode cX6_node 38 = .ok (.iload_n 1, 1) := by decide +kernel
theorem dX6_node_39 : decode cX6_node 39 = .ok (.iaload, 1) := by decide +kernel
theorem dX6_node_40 : decode cX6_node 40 = .ok (.istore_n 3, 1) := by decide +kernel
theorem dX6_node_41 : decode cX6_node 41 = .ok (.aload_n 0, 1) := by decide +kernel
theorem dX6_node_42 : decode cX6_node 42 = .ok (.getfield 41, 3) := by decide +kernel
theorem dX6_node_45 : decode cX6_node 45 = .ok (.iload_n 1, 1) := by decide +kernel
theorem dX6_node_46 : decode cX6_node 46 = .ok (.iaload, 1) := by decide +kernel
theorem dX6_node_47 : decode cX6_node 47 = .ok (.istore 4, 2) := by decide +kernel
theorem dX6_node_49 : decode cX6_node 49 = .ok (.iload_n 2, 1) := by decide +kernel
theorem dX6_node_50 : decode cX6_node 50 = .ok (.tableswitch 74 0 6 #[42, 45, 47, 47, 56, 62, 68], 42) := by decide +kernel
theorem dX6_node_92 : decode cX6_node 92 = .ok (.iload 4, 2) := by decide +kernel
theorem dX6_node_94 : decode cX6_node 94 = .ok (.ireturn, 1) := by decide +kernel
theorem dX6_node_95 : decode cX6_node 95 = .ok (.iload_n 3, 1) := by decide +kernel
theorem dX6_node_96 : decode cX6_node 96 = .ok (.ireturn, 1) := by decide +kernel
theorem dX6_node_97 : decode cX6_node 97 = .ok (.aload_n 0, 1) := by decide +kernel
theorem dX6_node_98 : decode cX6_node 98 = .ok (.iload_n 3, 1) := by decide +kernel
theorem dX6_node_99 : decode cX6_node 99 = .ok (.iload 4, 2) := by decide +kernel
theorem dX6_node_101 : decode cX6_node 101 = .ok (.iload_n 2, 1) := by decide +kernel
theorem dX6_node_102 : decode cX6_node 102 = .ok (.invokevirtual 116, 3) := by decide +kernel
theorem dX6_node_105 : decode cX6_node 105 = .ok (.ireturn, 1) := by decide +kernel
theorem dX6_node_106 : decode cX6_node 106 = .ok (.aload_n 0, 1) := by decide +kernel
theorem dX6_node_107 : decode cX6_node 107 = .ok (.iload_n 1, 1) := by decide +kernel
theorem dX6_node_108 : decode cX6_node 108 = .ok (.invokevirtual 79, 3) := by decide +kernel
theorem dX6_node_111 : decode cX6_node 111 = .ok (.ireturn, 1) := by decide +kernel
theorem dX6_node_112 : decode cX6_node 112 = .ok (.aload_n 0, 1) := by decide +kernel
theorem dX6_node_113 : decode cX6_node 113 = .ok (.iload_n 1, 1) := by decide +kernel
theorem dX6_node_114 : decode cX6_node 114 = .ok (.invokevirtual 83, 3) := by decide +kernel
theorem dX6_node_117 : decode cX6_node 117 = .ok (.ireturn, 1) := by decide +kernel
theorem dX6_node_118 : decode cX6_node 118 = .ok (.aload_n 0, 1) := by decide +kernel
theorem dX6_node_119 : decode cX6_node 119 = .ok (.iload_n 1, 1) := by decide +kernel
theorem dX6_node_120 : decode cX6_node 120 = .ok (.invokevirtual 120, 3) := by decide +kernel
theorem dX6_node_123 : decode cX6_node 123 = .ok (.ireturn, 1) := by decide +kernel
theorem dX6_node_124 : decode cX6_node 124 = .ok (.iload 4, 2) := by decide +kernel
theorem dX6_node_126 : decode cX6_node 126 = .ok (.iconst 3, 1) := by decide +kernel
theorem dX6_node_127 : decode cX6_node 127 = .ok (.if_icmp .ge 8, 3) := by decide +kernel
theorem dX6_node_130 : decode cX6_node 130 = .ok (.bipush (-4), 2) := by decide +kernel
theorem dX6_node_132 : decode cX6_node 132 = .ok (.goto 14, 3) := by decide +kernel
theorem dX6_node_135 : decode cX6_node 135 = .ok (.aload_n 0, 1) := by decide +kernel
theorem dX6_node_136 : decode cX6_node 136 = .ok (.iload_n 3, 1) := by decide +kernel
theorem dX6_node_137 : decode cX6_node 137 = .ok (.iconst 1, 1) := by decide +kernel
theorem dX6_node_138 : decode cX6_node 138 = .ok (.iadd, 1) := by decide +kernel
theorem dX6_node_139 : decode cX6_node 139 = .ok (.iload 4, 2) := by decide +kernel
theorem dX6_node_141 : decode cX6_node 141 = .ok (.iconst 2, 1) := by decide +kernel
theorem dX6_node_142 : decode cX6_node 142 = .ok (.isub, 1) := by decide +kernel
theorem dX6_node_143 : decode cX6_node 143 = .ok (.invokevirtual 76, 3) := by decide +kernel
theorem dX6_node_146 : decode cX6_node 146 = .ok (.ireturn, 1) := by decide +kernel
theorem dX6_keep_0 : decode cX6_keep 0 = .ok (.iload_n 1, 1) := by decide +kernel
theorem dX6_keep_1 : decode cX6_keep 1 = .ok (.i2l, 1) := by decide +kernel
theorem dX6_keep_2 : decode cX6_keep 2 = .ok (.lconst 0, 1) := by decide +kernel
theorem dX6_keep_3 : decode cX6_keep 3 = .ok (.lconst 1, 1) := by decide +kernel
theorem dX6_keep_4 : decode cX6_keep 4 = .ok (.invokestatic 90, 3) := by decide +kernel
theorem dX6_keep_7 : decode cX6_keep 7 = .ok (.ifCond .ne 5, 3) := by decide +kernel
theorem dX6_keep_10 : decode cX6_keep 10 = .ok (.iconst (-1), 1) := by decide +kernel
theorem dX6_keep_11 : decode cX6_keep 11 = .ok (.ireturn, 1) := by decide +kernel
theorem dX6_keep_12 : decode cX6_keep 12 = .ok (.aload_n 0, 1) := by decide +kernel
theorem dX6_keep_13 : decode cX6_keep 13 = .ok (.getfield 7, 3) := by decide +kernel
theorem dX6_keep_16 : decode cX6_keep 16 = .ok (.iconst 0, 1) := by decide +kernel
theorem dX6_keep_17 : decode cX6_keep 17 = .ok (.aload_n 0, 1) := by decide +kernel
theorem dX6_keep_18 : decode cX6_keep 18 = .ok (.getfield 16, 3) := by decide +kernel
theorem dX6_keep_21 : decode cX6_keep 21 = .ok (.bipush 48, 2) := by decide +kernel
theorem dX6_keep_23 : decode cX6_keep 23 = .ok (.iload_n 1, 1) := by decide +kernel
theorem dX6_keep_24 : decode cX6_keep 24 = .ok (.imul, 1) := by decide +kernel
theorem dX6_keep_25 : decode cX6_keep 25 = .ok (.aload_n 0, 1) := by decide +kernel
theorem dX6_keep_26 : decode cX6_keep 26 = .ok (.getfield 69, 3) := by decide +kernel
theorem dX6_keep_29 : decode cX6_keep 29 = .ok (.invokestatic 97, 3) := by decide +kernel
theorem dX6_keep_32 : decode cX6_keep 32 = .ok (.aload_n 0, 1) := by decide +kernel
theorem dX6_keep_33 : decode cX6_keep 33 = .ok (.getfield 19, 3) := by decide +kernel
theorem dX6_keep_36 : decode cX6_keep 36 = .ok (.iload_n 1, 1) := by decide +kernel
theorem dX6_keep_37 : decode cX6_keep 37 = .ok (.aload_n 0, 1) := by decide +kernel
theorem dX6_keep_38 : decode cX6_keep 38 = .ok (.getfield 69, 3) := by decide +kernel
theorem dX6_keep_41 : decode cX6_keep 41 = .ok (.iastore, 1) := by decide +kernel
theorem dX6_keep_42 : decode cX6_keep 42 = .ok (.aload_n 0, 1) := by decide +kernel
theorem dX6_keep_43 : decode cX6_keep 43 = .ok (.getfield 69, 3) := by decide +kernel
theorem dX6_keep_46 : decode cX6_keep 46 = .ok (.ireturn, 1) := by decide +kernel
theorem dX6_back_0 : decode cX6_back 0 = .ok (.iload_n 1, 1) := by decide +kernel
theorem dX6_back_1 : decode cX6_back 1 = .ok (.i2l, 1) := by decide +kernel
theorem dX6_back_2 : decode cX6_back 2 = .ok (.lconst 0, 1) := by decide +kernel
theorem dX6_back_3 : decode cX6_back 3 = .ok (.lconst 1, 1) := by decide +kernel
theorem dX6_back_4 : decode cX6_back 4 = .ok (.invokestatic 90, 3) := by decide +kernel
theorem dX6_back_7 : decode cX6_back 7 = .ok (.ifCond .ne 5, 3) := by decide +kernel
theorem dX6_back_10 : decode cX6_back 10 = .ok (.iconst (-1), 1) := by decide +kernel
theorem dX6_back_11 : decode cX6_back 11 = .ok (.ireturn, 1) := by decide +kernel
theorem dX6_back_12 : decode cX6_back 12 = .ok (.aload_n 0, 1) := by decide +kernel
theorem dX6_back_13 : decode cX6_back 13 = .ok (.getfield 19, 3) := by decide +kernel
theorem dX6_back_16 : decode cX6_back 16 = .ok (.iload_n 1, 1) := by decide +kernel
theorem dX6_back_17 : decode cX6_back 17 = .ok (.iaload, 1) := by decide +kernel
theorem dX6_back_18 : decode cX6_back 18 = .ok (.ifCond .ge 6, 3) := by decide +kernel
theorem dX6_back_21 : decode cX6_back 21 = .ok (.bipush (-2), 2) := by decide +kernel
theorem dX6_back_23 : decode cX6_back 23 = .ok (.ireturn, 1) := by decide +kernel
theorem dX6_back_24 : decode cX6_back 24 = .ok (.aload_n 0, 1) := by decide +kernel
theorem dX6_back_25 : decode cX6_back 25 = .ok (.getfield 16, 3) := by decide +kernel
theorem dX6_back_28 : decode cX6_back 28 = .ok (.bipush 48, 2) := by decide +kernel
theorem dX6_back_30 : decode cX6_back 30 = .ok (.iload_n 1, 1) := by decide +kernel
theorem dX6_back_31 : decode cX6_back 31 = .ok (.imul, 1) := by decide +kernel
theorem dX6_back_32 : decode cX6_back 32 = .ok (.aload_n 0, 1) := by decide +kernel
theorem dX6_back_33 : decode cX6_back 33 = .ok (.getfield 7, 3) := by decide +kernel
theorem dX6_back_36 : decode cX6_back 36 = .ok (.iconst 0, 1) := by decide +kernel
theorem dX6_back_37 : decode cX6_back 37 = .ok (.aload_n 0, 1) := by decide +kernel
theorem dX6_back_38 : decode cX6_back 38 = .ok (.getfield 19, 3) := by decide +kernel
theorem dX6_back_41 : decode cX6_back 41 = .ok (.iload_n 1, 1) := by decide +kernel
theorem dX6_back_42 : decode cX6_back 42 = .ok (.iaload, 1) := by decide +kernel
theorem dX6_back_43 : decode cX6_back 43 = .ok (.invokestatic 97, 3) := by decide +kernel
theorem dX6_back_46 : decode cX6_back 46 = .ok (.aload_n 0, 1) := by decide +kernel
theorem dX6_back_47 : decode cX6_back 47 = .ok (.aload_n 0, 1) := by decide +kernel
theorem dX6_back_48 : decode cX6_back 48 = .ok (.getfield 19, 3) := by decide +kernel
theorem dX6_back_51 : decode cX6_back 51 = .ok (.iload_n 1, 1) := by decide +kernel
theorem dX6_back_52 : decode cX6_back 52 = .ok (.iaload, 1) := by decide +kernel
theorem dX6_back_53 : decode cX6_back 53 = .ok (.putfield 69, 3) := by decide +kernel
theorem dX6_back_56 : decode cX6_back 56 = .ok (.aload_n 0, 1) := by decide +kernel
theorem dX6_back_57 : decode cX6_back 57 = .ok (.iconst 0, 1) := by decide +kernel
theorem dX6_back_58 : decode cX6_back 58 = .ok (.putfield 94, 3) := by decide +kernel
theorem dX6_back_61 : decode cX6_back 61 = .ok (.aload_n 0, 1) := by decide +kernel
theorem dX6_back_62 : decode cX6_back 62 = .ok (.getfield 69, 3) := by decide +kernel
theorem dX6_back_65 : decode cX6_back 65 = .ok (.ireturn, 1) := by decide +kernel
theorem dX6_isImaged_0 : decode cX6_isImaged 0 = .ok (.iconst 0, 1) := by decide +kernel
theorem dX6_isImaged_1 : decode cX6_isImaged 1 = .ok (.istore 4, 2) := by decide +kernel
theorem dX6_isImaged_3 : decode cX6_isImaged 3 = .ok (.iconst 0, 1) := by decide +kernel
theorem dX6_isImaged_4 : decode cX6_isImaged 4 = .ok (.istore 5, 2) := by decide +kernel
theorem dX6_isImaged_6 : decode cX6_isImaged 6 = .ok (.iload 5, 2) := by decide +kernel
theorem dX6_isImaged_8 : decode cX6_isImaged 8 = .ok (.iload_n 3, 1) := by decide +kernel
theorem dX6_isImaged_9 : decode cX6_isImaged 9 = .ok (.iadd, 1) := by decide +kernel
theorem dX6_isImaged_10 : decode cX6_isImaged 10 = .ok (.aload_n 0, 1) := by decide +kernel
theorem dX6_isImaged_11 : decode cX6_isImaged 11 = .ok (.getfield 19, 3) := by decide +kernel
theorem dX6_isImaged_14 : decode cX6_isImaged 14 = .ok (.iload_n 1, 1) := by decide +kernel
theorem dX6_isImaged_15 : decode cX6_isImaged 15 = .ok (.iaload, 1) := by decide +kernel
theorem dX6_isImaged_16 : decode cX6_isImaged 16 = .ok (.if_icmp .gt 75, 3) := by decide +kernel
theorem dX6_isImaged_19 : decode cX6_isImaged 19 = .ok (.iload 4, 2) := by decide +kernel
theorem dX6_isImaged_21 : decode cX6_isImaged 21 = .ok (.ifCond .ne 70, 3) := by decide +kernel
theorem dX6_isImaged_24 : decode cX6_isImaged 24 = .ok (.iconst 1, 1) := by decide +kernel
theorem dX6_isImaged_25 : decode cX6_isImaged 25 = .ok (.istore 6, 2) := by decide +kernel
theorem dX6_isImaged_27 : decode cX6_isImaged 27 = .ok (.iconst 0, 1) := by decide +kernel
theorem dX6_isImaged_28 : decode cX6_isImaged 28 = .ok (.istore 7, 2) := by decide +kernel
theorem dX6_isImaged_30 : decode cX6_isImaged 30 = .ok (.iload 7, 2) := by decide +kernel
theorem dX6_isImaged_32 : decode cX6_isImaged 32 = .ok (.iload_n 3, 1) := by decide +kernel
theorem dX6_isImaged_33 : decode cX6_isImaged 33 = .ok (.if_icmp .ge 48, 3) := by decide +kernel
theorem dX6_isImaged_36 : decode cX6_isImaged 36 = .ok (.iload 6, 2) := by decide +kernel
theorem dX6_isImaged_38 : decode cX6_isImaged 38 = .ok (.ifCond .eq 43, 3) := by decide +kernel
theorem dX6_isImaged_41 : decode cX6_isImaged 41 = .ok (.aload_n 0, 1) := by decide +kernel
theorem dX6_isImaged_42 : decode cX6_isImaged 42 = .ok (.getfield 16, 3) := by decide +kernel
theorem dX6_isImaged_45 : decode cX6_isImaged 45 = .ok (.bipush 48, 2) := by decide +kernel
theorem dX6_isImaged_47 : decode cX6_isImaged 47 = .ok (.iload_n 1, 1) := by decide +kernel
theorem dX6_isImaged_48 : decode cX6_isImaged 48 = .ok (.imul, 1) := by decide +kernel
theorem dX6_isImaged_49 : decode cX6_isImaged 49 = .ok (.iload 5, 2) := by decide +kernel
theorem dX6_isImaged_51 : decode cX6_isImaged 51 = .ok (.iadd, 1) := by decide +kernel
theorem dX6_isImaged_52 : decode cX6_isImaged 52 = .ok (.iload 7, 2) := by decide +kernel
theorem dX6_isImaged_54 : decode cX6_isImaged 54 = .ok (.iadd, 1) := by decide +kernel
theorem dX6_isImaged_55 : decode cX6_isImaged 55 = .ok (.iaload, 1) := by decide +kernel
theorem dX6_isImaged_56 : decode cX6_isImaged 56 = .ok (.aload_n 0, 1) := by decide +kernel
theorem dX6_isImaged_57 : decode cX6_isImaged 57 = .ok (.getfield 7, 3) := by decide +kernel
theorem dX6_isImaged_60 : decode cX6_isImaged 60 = .ok (.iload_n 2, 1) := by decide +kernel
theorem dX6_isImaged_61 : decode cX6_isImaged 61 = .ok (.iload 7, 2) := by decide +kernel
theorem dX6_isImaged_63 : decode cX6_isImaged 63 = .ok (.iadd, 1) := by decide +kernel
theorem dX6_isImaged_64 : decode cX6_isImaged 64 = .ok (.iaload, 1) := by decide +kernel
theorem dX6_isImaged_65 : decode cX6_isImaged 65 = .ok (.if_icmp .ne 7, 3) := by decide +kernel
theorem dX6_isImaged_68 : decode cX6_isImaged 68 = .ok (.iconst 1, 1) := by decide +kernel
theorem dX6_isImaged_69 : decode cX6_isImaged 69 = .ok (.goto 4, 3) := by decide +kernel
theorem dX6_isImaged_72 : decode cX6_isImaged 72 = .ok (.iconst 0, 1) := by decide +kernel
theorem dX6_isImaged_73 : decode cX6_isImaged 73 = .ok (.istore 6, 2) := by decide +kernel
theorem dX6_isImaged_75 : decode cX6_isImaged 75 = .ok (.iinc 7 1, 3) := by decide +kernel
theorem dX6_isImaged_78 : decode cX6_isImaged 78 = .ok (.goto (-48), 3) := by decide +kernel
theorem dX6_isImaged_81 : decode cX6_isImaged 81 = .ok (.iload 6, 2) := by decide +kernel
theorem dX6_isImaged_83 : decode cX6_isImaged 83 = .ok (.istore 4, 2) := by decide +kernel
theorem dX6_isImaged_85 : decode cX6_isImaged 85 = .ok (.iinc 5 1, 3) := by decide +kernel
theorem dX6_isImaged_88 : decode cX6_isImaged 88 = .ok (.goto (-82), 3) := by decide +kernel
theorem dX6_isImaged_91 : decode cX6_isImaged 91 = .ok (.iload 4, 2) := by decide +kernel
theorem dX6_isImaged_93 : decode cX6_isImaged 93 = .ok (.ireturn, 1) := by decide +kernel
theorem dX6_common_0 : decode cX6_common 0 = .ok (.iload_n 1, 1) := by decide +kernel
theorem dX6_common_1 : decode cX6_common 1 = .ok (.i2l, 1) := by decide +kernel
theorem dX6_common_2 : decode cX6_common 2 = .ok (.lconst 0, 1) := by decide +kernel
theorem dX6_common_3 : decode cX6_common 3 = .ok (.lconst 1, 1) := by decide +kernel
theorem dX6_common_4 : decode cX6_common 4 = .ok (.invokestatic 90, 3) := by decide +kernel
theorem dX6_common_7 : decode cX6_common 7 = .ok (.ifCond .eq 13, 3) := by decide +kernel
theorem dX6_common_10 : decode cX6_common 10 = .ok (.iload_n 2, 1) := by decide +kernel
theorem dX6_common_11 : decode cX6_common 11 = .ok (.i2l, 1) := by decide +kernel
theorem dX6_common_12 : decode cX6_common 12 = .ok (.lconst 0, 1) := by decide +kernel
theorem dX6_common_13 : decode cX6_common 13 = .ok (.lconst 1, 1) := by decide +kernel
theorem dX6_common_14 : decode cX6_common 14 = .ok (.invokestatic 90, 3) := by decide +kernel
theorem dX6_common_17 : decode cX6_common 17 = .ok (.ifCond .ne 5, 3) := by decide +kernel
theorem dX6_common_20 : decode cX6_common 20 = .ok (.iconst (-1), 1) := by decide +kernel
theorem dX6_common_21 : decode cX6_common 21 = .ok (.ireturn, 1) := by decide +kernel
theorem dX6_common_22 : decode cX6_common 22 = .ok (.aload_n 0, 1) := by decide +kernel
theorem dX6_common_23 : decode cX6_common 23 = .ok (.getfield 19, 3) := by decide +kernel
theorem dX6_common_26 : decode cX6_common 26 = .ok (.iload_n 1, 1) := by decide +kernel
theorem dX6_common_27 : decode cX6_common 27 = .ok (.iaload, 1) := by decide +kernel
theorem dX6_common_28 : decode cX6_common 28 = .ok (.ifCond .ge 6, 3) := by decide +kernel
theorem dX6_common_31 : decode cX6_common 31 = .ok (.bipush (-2), 2) := by decide +kernel
theorem dX6_common_33 : decode cX6_common 33 = .ok (.ireturn, 1) := by decide +kernel
theorem dX6_common_34 : decode cX6_common 34 = .ok (.aload_n 0, 1) := by decide +kernel
theorem dX6_common_35 : decode cX6_common 35 = .ok (.invokevirtual 111, 3) := by decide +kernel
theorem dX6_common_38 : decode cX6_common 38 = .ok (.iconst 0, 1) := by decide +kernel
theorem dX6_common_39 : decode cX6_common 39 = .ok (.istore_n 3, 1) := by decide +kernel
theorem dX6_common_40 : decode cX6_common 40 = .ok (.iconst 0, 1) := by decide +kernel
theorem dX6_common_41 : decode cX6_common 41 = .ok (.istore 4, 2) := by decide +kernel
theorem dX6_common_43 : decode cX6_common 43 = .ok (.iconst 0, 1) := by decide +kernel
theorem dX6_common_44 : decode cX6_common 44 = .ok (.istore 5, 2) := by decide +kernel
theorem dX6_common_46 : decode cX6_common 46 = .ok (.iload 5, 2) := by decide +kernel
theorem dX6_common_48 : decode cX6_common 48 = .ok (.aload_n 0, 1) := by decide +kernel
theorem dX6_common_49 : decode cX6_common 49 = .ok (.getfield 65, 3) := by decide +kernel
theorem dX6_common_52 : decode cX6_common 52 = .ok (.if_icmp .ge 74, 3) := by decide +kernel
theorem dX6_common_55 : decode cX6_common 55 = .ok (.aload_n 0, 1) := by decide +kernel
theorem dX6_common_56 : decode cX6_common 56 = .ok (.iload_n 1, 1) := by decide +kernel
theorem dX6_common_57 : decode cX6_common 57 = .ok (.aload_n 0, 1) := by decide +kernel
theorem dX6_common_58 : decode cX6_common 58 = .ok (.getfield 38, 3) := by decide +kernel
theorem dX6_common_61 : decode cX6_common 61 = .ok (.iload 5, 2) := by decide +kernel
theorem dX6_common_63 : decode cX6_common 63 = .ok (.iaload, 1) := by decide +kernel
theorem dX6_common_64 : decode cX6_common 64 = .ok (.aload_n 0, 1) := by decide +kernel
theorem dX6_common_65 : decode cX6_common 65 = .ok (.getfield 41, 3) := by decide +kernel
theorem dX6_common_68 : decode cX6_common 68 = .ok (.iload 5, 2) := by decide +kernel
theorem dX6_common_70 : decode cX6_common 70 = .ok (.iaload, 1) := by decide +kernel
theorem dX6_common_71 : decode cX6_common 71 = .ok (.invokevirtual 123, 3) := by decide +kernel
theorem dX6_common_74 : decode cX6_common 74 = .ok (.istore 6, 2) := by decide +kernel
theorem dX6_common_76 : decode cX6_common 76 = .ok (.iload_n 3, 1) := by decide +kernel
theorem dX6_common_77 : decode cX6_common 77 = .ok (.iload 6, 2) := by decide +kernel
theorem dX6_common_79 : decode cX6_common 79 = .ok (.ifCond .eq 7, 3) := by decide +kernel
theorem dX6_common_82 : decode cX6_common 82 = .ok (.iconst 1, 1) := by decide +kernel
theorem dX6_common_83 : decode cX6_common 83 = .ok (.goto 4, 3) := by decide +kernel
theorem dX6_common_86 : decode cX6_common 86 = .ok (.iconst 0, 1) := by decide +kernel
theorem dX6_common_87 : decode cX6_common 87 = .ok (.iadd, 1) := by decide +kernel
theorem dX6_common_88 : decode cX6_common 88 = .ok (.istore_n 3, 1) := by decide +kernel
theorem dX6_common_89 : decode cX6_common 89 = .ok (.iload 6, 2) := by decide +kernel
theorem dX6_common_91 : decode cX6_common 91 = .ok (.ifCond .eq 25, 3) := by decide +kernel
theorem dX6_common_94 : decode cX6_common 94 = .ok (.aload_n 0, 1) := by decide +kernel
theorem dX6_common_95 : decode cX6_common 95 = .ok (.getfield 41, 3) := by decide +kernel
theorem dX6_common_98 : decode cX6_common 98 = .ok (.iload 5, 2) := by decide +kernel
theorem dX6_common_100 : decode cX6_common 100 = .ok (.iaload, 1) := by decide +kernel
theorem dX6_common_101 : decode cX6_common 101 = .ok (.iload 4, 2) := by decide +kernel
theorem dX6_common_103 : decode cX6_common 103 = .ok (.if_icmp .le 13, 3) := by decide +kernel
theorem dX6_common_106 : decode cX6_common 106 = .ok (.aload_n 0, 1) := by decide +kernel
theorem dX6_common_107 : decode cX6_common 107 = .ok (.getfield 41, 3) := by decide +kernel
theorem dX6_common_110 : decode cX6_common 110 = .ok (.iload 5, 2) := by decide +kernel
theorem dX6_common_112 : decode cX6_common 112 = .ok (.iaload, 1) := by decide +kernel
theorem dX6_common_113 : decode cX6_common 113 = .ok (.goto 5, 3) := by decide +kernel
theorem dX6_common_116 : decode cX6_common 116 = .ok (.iload 4, 2) := by decide +kernel
theorem dX6_common_118 : decode cX6_common 118 = .ok (.istore 4, 2) := by decide +kernel
theorem dX6_common_120 : decode cX6_common 120 = .ok (.iinc 5 1, 3) := by decide +kernel
theorem dX6_common_123 : decode cX6_common 123 = .ok (.goto (-77), 3) := by decide +kernel
theorem dX6_common_126 : decode cX6_common 126 = .ok (.iload_n 2, 1) := by decide +kernel
theorem dX6_common_127 : decode cX6_common 127 = .ok (.ifCond .ne 7, 3) := by decide +kernel
theorem dX6_common_130 : decode cX6_common 130 = .ok (.iload_n 3, 1) := by decide +kernel
theorem dX6_common_131 : decode cX6_common 131 = .ok (.goto 5, 3) := by decide +kernel
theorem dX6_common_134 : decode cX6_common 134 = .ok (.iload 4, 2) := by decide +kernel
theorem dX6_common_136 : decode cX6_common 136 = .ok (.ireturn, 1) := by decide +kernel
theorem dX6_ends_0 : decode cX6_ends 0 = .ok (.iload_n 1, 1) := by decide +kernel
theorem dX6_ends_1 : decode cX6_ends 1 = .ok (.i2l, 1) := by decide +kernel
theorem dX6_ends_2 : decode cX6_ends 2 = .ok (.lconst 0, 1) := by decide +kernel
theorem dX6_ends_3 : decode cX6_ends 3 = .ok (.aload_n 0, 1) := by decide +kernel
theorem dX6_ends_4 : decode cX6_ends 4 = .ok (.getfield 69, 3) := by decide +kernel
theorem dX6_ends_7 : decode cX6_ends 7 = .ok (.iconst 1, 1) := by decide +kernel
theorem dX6_ends_8 : decode cX6_ends 8 = .ok (.isub, 1) := by decide +kernel
theorem dX6_ends_9 : decode cX6_ends 9 = .ok (.i2l, 1) := by decide +kernel
theorem dX6_ends_10 : decode cX6_ends 10 = .ok (.invokestatic 90, 3) := by decide +kernel
theorem dX6_ends_13 : decode cX6_ends 13 = .ok (.ifCond .eq 8, 3) := by decide +kernel
theorem dX6_ends_16 : decode cX6_ends 16 = .ok (.iload_n 2, 1) := by decide +kernel
theorem dX6_ends_17 : decode cX6_ends 17 = .ok (.iconst (-1), 1) := by decide +kernel
theorem dX6_ends_18 : decode cX6_ends 18 = .ok (.if_icmp .ge 5, 3) := by decide +kernel
theorem dX6_ends_21 : decode cX6_ends 21 = .ok (.iconst (-1), 1) := by decide +kernel
theorem dX6_ends_22 : decode cX6_ends 22 = .ok (.ireturn, 1) := by decide +kernel
theorem dX6_ends_23 : decode cX6_ends 23 = .ok (.iconst 0, 1) := by decide +kernel
theorem dX6_ends_24 : decode cX6_ends 24 = .ok (.istore_n 3, 1) := by decide +kernel
theorem dX6_ends_25 : decode cX6_ends 25 = .ok (.aload_n 0, 1) := by decide +kernel
theorem dX6_ends_26 : decode cX6_ends 26 = .ok (.iload_n 1, 1) := by decide +kernel
theorem dX6_ends_27 : decode cX6_ends 27 = .ok (.bipush 49, 2) := by decide +kernel
theorem dX6_ends_29 : decode cX6_ends 29 = .ok (.invokevirtual 57, 3) := by decide +kernel
theorem dX6_ends_32 : decode cX6_ends 32 = .ok (.istore 4, 2) := by decide +kernel
theorem dX6_ends_34 : decode cX6_ends 34 = .ok (.iload 4, 2) := by decide +kernel
theorem dX6_ends_36 : decode cX6_ends 36 = .ok (.ifCond .le 26, 3) := by decide +kernel
theorem dX6_ends_39 : decode cX6_ends 39 = .ok (.iload_n 3, 1) := by decide +kernel
theorem dX6_ends_40 : decode cX6_ends 40 = .ok (.iload_n 2, 1) := by decide +kernel
theorem dX6_ends_41 : decode cX6_ends 41 = .ok (.if_icmp .ne 6, 3) := by decide +kernel
theorem dX6_ends_44 : decode cX6_ends 44 = .ok (.iload 4, 2) := by decide +kernel
theorem dX6_ends_46 : decode cX6_ends 46 = .ok (.ireturn, 1) := by decide +kernel
theorem dX6_ends_47 : decode cX6_ends 47 = .ok (.iinc 3 1, 3) := by decide +kernel
theorem dX6_ends_50 : decode cX6_ends 50 = .ok (.aload_n 0, 1) := by decide +kernel
theorem dX6_ends_51 : decode cX6_ends 51 = .ok (.iload_n 1, 1) := by decide +kernel
theorem dX6_ends_52 : decode cX6_ends 52 = .ok (.iload 4, 2) := by decide +kernel
theorem dX6_ends_54 : decode cX6_ends 54 = .ok (.invokevirtual 57, 3) := by decide +kernel
theorem dX6_ends_57 : decode cX6_ends 57 = .ok (.istore 4, 2) := by decide +kernel
theorem dX6_ends_59 : decode cX6_ends 59 = .ok (.goto (-25), 3) := by decide +kernel
theorem dX6_ends_62 : decode cX6_ends 62 = .ok (.iload_n 2, 1) := by decide +kernel
theorem dX6_ends_63 : decode cX6_ends 63 = .ok (.iconst (-1), 1) := by decide +kernel
theorem dX6_ends_64 : decode cX6_ends 64 = .ok (.if_icmp .ne 7, 3) := by decide +kernel
theorem dX6_ends_67 : decode cX6_ends 67 = .ok (.iload_n 3, 1) := by decide +kernel
theorem dX6_ends_68 : decode cX6_ends 68 = .ok (.goto 5, 3) := by decide +kernel
theorem dX6_ends_71 : decode cX6_ends 71 = .ok (.bipush (-4), 2) := by decide +kernel
theorem dX6_ends_73 : decode cX6_ends 73 = .ok (.ireturn, 1) := by decide +kernel
theorem dX6_groups_0 : decode cX6_groups 0 = .ok (.iload_n 1, 1) := by decide +kernel
theorem dX6_groups_1 : decode cX6_groups 1 = .ok (.i2l, 1) := by decide +kernel
theorem dX6_groups_2 : decode cX6_groups 2 = .ok (.lconst 0, 1) := by decide +kernel
theorem dX6_groups_3 : decode cX6_groups 3 = .ok (.aload_n 0, 1) := by decide +kernel
theorem dX6_groups_4 : decode cX6_groups 4 = .ok (.getfield 69, 3) := by decide +kernel
theorem dX6_groups_7 : decode cX6_groups 7 = .ok (.iconst 1, 1) := by decide +kernel
theorem dX6_groups_8 : decode cX6_groups 8 = .ok (.isub, 1) := by decide +kernel
theorem dX6_groups_9 : decode cX6_groups 9 = .ok (.i2l, 1) := by decide +kernel
theorem dX6_groups_10 : decode cX6_groups 10 = .ok (.invokestatic 90, 3) := by decide +kernel
theorem dX6_groups_13 : decode cX6_groups 13 = .ok (.ifCond .ne 5, 3) := by decide +kernel
theorem dX6_groups_16 : decode cX6_groups 16 = .ok (.iconst (-1), 1) := by decide +kernel
theorem dX6_groups_17 : decode cX6_groups 17 = .ok (.ireturn, 1) := by decide +kernel
theorem dX6_groups_18 : decode cX6_groups 18 = .ok (.aload_n 0, 1) := by decide +kernel
theorem dX6_groups_19 : decode cX6_groups 19 = .ok (.invokevirtual 111, 3) := by decide +kernel
theorem dX6_groups_22 : decode cX6_groups 22 = .ok (.aload_n 0, 1) := by decide +kernel
theorem dX6_groups_23 : decode cX6_groups 23 = .ok (.iload_n 1, 1) := by decide +kernel
theorem dX6_groups_24 : decode cX6_groups 24 = .ok (.bipush 49, 2) := by decide +kernel
theorem dX6_groups_26 : decode cX6_groups 26 = .ok (.invokevirtual 57, 3) := by decide +kernel
theorem dX6_groups_29 : decode cX6_groups 29 = .ok (.istore_n 2, 1) := by decide +kernel
theorem dX6_groups_30 : decode cX6_groups 30 = .ok (.aload_n 0, 1) := by decide +kernel
theorem dX6_groups_31 : decode cX6_groups 31 = .ok (.iload_n 1, 1) := by decide +kernel
theorem dX6_groups_32 : decode cX6_groups 32 = .ok (.iconst 1, 1) := by decide +kernel
theorem dX6_groups_33 : decode cX6_groups 33 = .ok (.iadd, 1) := by decide +kernel
theorem dX6_groups_34 : decode cX6_groups 34 = .ok (.iload_n 2, 1) := by decide +kernel
theorem dX6_groups_35 : decode cX6_groups 35 = .ok (.isub, 1) := by decide +kernel
theorem dX6_groups_36 : decode cX6_groups 36 = .ok (.iload_n 2, 1) := by decide +kernel
theorem dX6_groups_37 : decode cX6_groups 37 = .ok (.invokevirtual 76, 3) := by decide +kernel
theorem dX6_groups_40 : decode cX6_groups 40 = .ok (.istore_n 3, 1) := by decide +kernel
theorem dX6_groups_41 : decode cX6_groups 41 = .ok (.iconst 0, 1) := by decide +kernel
theorem dX6_groups_42 : decode cX6_groups 42 = .ok (.istore 4, 2) := by decide +kernel
theorem dX6_groups_44 : decode cX6_groups 44 = .ok (.iload_n 3, 1) := by decide +kernel
theorem dX6_groups_45 : decode cX6_groups 45 = .ok (.bipush (-4), 2) := by decide +kernel
theorem dX6_groups_47 : decode cX6_groups 47 = .ok (.if_icmp .eq 15, 3) := by decide +kernel
theorem dX6_groups_50 : decode cX6_groups 50 = .ok (.iinc 4 1, 3) := by decide +kernel
theorem dX6_groups_53 : decode cX6_groups 53 = .ok (.aload_n 0, 1) := by decide +kernel
theorem dX6_groups_54 : decode cX6_groups 54 = .ok (.iload_n 3, 1) := by decide +kernel
theorem dX6_groups_55 : decode cX6_groups 55 = .ok (.invokevirtual 120, 3) := by decide +kernel
theorem dX6_groups_58 : decode cX6_groups 58 = .ok (.istore_n 3, 1) := by decide +kernel
theorem dX6_groups_59 : decode cX6_groups 59 = .ok (.goto (-15), 3) := by decide +kernel
theorem dX6_groups_62 : decode cX6_groups 62 = .ok (.iload 4, 2) := by decide +kernel
theorem dX6_groups_64 : decode cX6_groups 64 = .ok (.ireturn, 1) := by decide +kernel
theorem dX6_layCuts_0 : decode cX6_layCuts 0 = .ok (.aload_n 0, 1) := by decide +kernel
theorem dX6_layCuts_1 : decode cX6_layCuts 1 = .ok (.getfield 44, 3) := by decide +kernel
theorem dX6_layCuts_4 : decode cX6_layCuts 4 = .ok (.iload_n 1, 1) := by decide +kernel
theorem dX6_layCuts_5 : decode cX6_layCuts 5 = .ok (.iconst 0, 1) := by decide +kernel
theorem dX6_layCuts_6 : decode cX6_layCuts 6 = .ok (.iastore, 1) := by decide +kernel
theorem dX6_layCuts_7 : decode cX6_layCuts 7 = .ok (.iload_n 1, 1) := by decide +kernel
theorem dX6_layCuts_8 : decode cX6_layCuts 8 = .ok (.iconst 1, 1) := by decide +kernel
theorem dX6_layCuts_9 : decode cX6_layCuts 9 = .ok (.isub, 1) := by decide +kernel
theorem dX6_layCuts_10 : decode cX6_layCuts 10 = .ok (.istore_n 3, 1) := by decide +kernel
theorem dX6_layCuts_11 : decode cX6_layCuts 11 = .ok (.iload_n 3, 1) := by decide +kernel
theorem dX6_layCuts_12 : decode cX6_layCuts 12 = .ok (.ifCond .lt 84, 3) := by decide +kernel
theorem dX6_layCuts_15 : decode cX6_layCuts 15 = .ok (.aload_n 0, 1) := by decide +kernel
theorem dX6_layCuts_16 : decode cX6_layCuts 16 = .ok (.getfield 44, 3) := by decide +kernel
theorem dX6_layCuts_19 : decode cX6_layCuts 19 = .ok (.iload_n 3, 1) := by decide +kernel
theorem dX6_layCuts_20 : decode cX6_layCuts 20 = .ok (.bipush 99, 2) := by decide +kernel
theorem dX6_layCuts_22 : decode cX6_layCuts 22 = .ok (.iastore, 1) := by decide +kernel
theorem dX6_layCuts_23 : decode cX6_layCuts 23 = .ok (.iload_n 2, 1) := by decide +kernel
theorem dX6_layCuts_24 : decode cX6_layCuts 24 = .ok (.istore 4, 2) := by decide +kernel
theorem dX6_layCuts_26 : decode cX6_layCuts 26 = .ok (.iload_n 3, 1) := by decide +kernel
theorem dX6_layCuts_27 : decode cX6_layCuts 27 = .ok (.iload 4, 2) := by decide +kernel
theorem dX6_layCuts_29 : decode cX6_layCuts 29 = .ok (.iadd, 1) := by decide +kernel
theorem dX6_layCuts_30 : decode cX6_layCuts 30 = .ok (.iload_n 1, 1) := by decide +kernel
theorem dX6_layCuts_31 : decode cX6_layCuts 31 = .ok (.if_icmp .gt 59, 3) := by decide +kernel
theorem dX6_layCuts_34 : decode cX6_layCuts 34 = .ok (.aload_n 0, 1) := by decide +kernel
theorem dX6_layCuts_35 : decode cX6_layCuts 35 = .ok (.iload_n 3, 1) := by decide +kernel
theorem dX6_layCuts_36 : decode cX6_layCuts 36 = .ok (.iload 4, 2) := by decide +kernel
theorem dX6_layCuts_38 : decode cX6_layCuts 38 = .ok (.invokevirtual 53, 3) := by decide +kernel
theorem dX6_layCuts_41 : decode cX6_layCuts 41 = .ok (.ifCond .eq 40, 3) := by decide +kernel
theorem dX6_layCuts_44 : decode cX6_layCuts 44 = .ok (.aload_n 0, 1) := by decide +kernel
theorem dX6_layCuts_45 : decode cX6_layCuts 45 = .ok (.getfield 44, 3) := by decide +kernel
theorem dX6_layCuts_48 : decode cX6_layCuts 48 = .ok (.iload_n 3, 1) := by decide +kernel
theorem dX6_layCuts_49 : decode cX6_layCuts 49 = .ok (.iload 4, 2) := by decide +kernel
theorem dX6_layCuts_51 : decode cX6_layCuts 51 = .ok (.iadd, 1) := by decide +kernel
theorem dX6_layCuts_52 : decode cX6_layCuts 52 = .ok (.iaload, 1) := by decide +kernel
theorem dX6_layCuts_53 : decode cX6_layCuts 53 = .ok (.iconst 1, 1) := by decide +kernel
theorem dX6_layCuts_54 : decode cX6_layCuts 54 = .ok (.iadd, 1) := by decide +kernel
theorem dX6_layCuts_55 : decode cX6_layCuts 55 = .ok (.aload_n 0, 1) := by decide +kernel
theorem dX6_layCuts_56 : decode cX6_layCuts 56 = .ok (.getfield 44, 3) := by decide +kernel
theorem dX6_layCuts_59 : decode cX6_layCuts 59 = .ok (.iload_n 3, 1) := by decide +kernel
theorem dX6_layCuts_60 : decode cX6_layCuts 60 = .ok (.iaload, 1) := by decide +kernel
theorem dX6_layCuts_61 : decode cX6_layCuts 61 = .ok (.if_icmp .ge 20, 3) := by decide +kernel
theorem dX6_layCuts_64 : decode cX6_layCuts 64 = .ok (.aload_n 0, 1) := by decide +kernel
theorem dX6_layCuts_65 : decode cX6_layCuts 65 = .ok (.getfield 44, 3) := by decide +kernel
theorem dX6_layCuts_68 : decode cX6_layCuts 68 = .ok (.iload_n 3, 1) := by decide +kernel
theorem dX6_layCuts_69 : decode cX6_layCuts 69 = .ok (.aload_n 0, 1) := by decide +kernel
theorem dX6_layCuts_70 : decode cX6_layCuts 70 = .ok (.getfield 44, 3) := by decide +kernel
theorem dX6_layCuts_73 : decode cX6_layCuts 73 = .ok (.iload_n 3, 1) := by decide +kernel
theorem dX6_layCuts_74 : decode cX6_layCuts 74 = .ok (.iload 4, 2) := by decide +kernel
theorem dX6_layCuts_76 : decode cX6_layCuts 76 = .ok (.iadd, 1) := by decide +kernel
theorem dX6_layCuts_77 : decode cX6_layCuts 77 = .ok (.iaload, 1) := by decide +kernel
theorem dX6_layCuts_78 : decode cX6_layCuts 78 = .ok (.iconst 1, 1) := by decide +kernel
theorem dX6_layCuts_79 : decode cX6_layCuts 79 = .ok (.iadd, 1) := by decide +kernel
theorem dX6_layCuts_80 : decode cX6_layCuts 80 = .ok (.iastore, 1) := by decide +kernel
theorem dX6_layCuts_81 : decode cX6_layCuts 81 = .ok (.iload 4, 2) := by decide +kernel
theorem dX6_layCuts_83 : decode cX6_layCuts 83 = .ok (.iload_n 2, 1) := by decide +kernel
theorem dX6_layCuts_84 : decode cX6_layCuts 84 = .ok (.iadd, 1) := by decide +kernel
theorem dX6_layCuts_85 : decode cX6_layCuts 85 = .ok (.istore 4, 2) := by decide +kernel
theorem dX6_layCuts_87 : decode cX6_layCuts 87 = .ok (.goto (-61), 3) := by decide +kernel
theorem dX6_layCuts_90 : decode cX6_layCuts 90 = .ok (.iinc 3 (-1), 3) := by decide +kernel
theorem dX6_layCuts_93 : decode cX6_layCuts 93 = .ok (.goto (-82), 3) := by decide +kernel
theorem dX6_layCuts_96 : decode cX6_layCuts 96 = .ok (.return_, 1) := by decide +kernel
theorem dX6_cuts_0 : decode cX6_cuts 0 = .ok (.iload_n 1, 1) := by decide +kernel
theorem dX6_cuts_1 : decode cX6_cuts 1 = .ok (.i2l, 1) := by decide +kernel
theorem dX6_cuts_2 : decode cX6_cuts 2 = .ok (.lconst 0, 1) := by decide +kernel
theorem dX6_cuts_3 : decode cX6_cuts 3 = .ok (.aload_n 0, 1) := by decide +kernel
theorem dX6_cuts_4 : decode cX6_cuts 4 = .ok (.getfield 69, 3) := by decide +kernel
theorem dX6_cuts_7 : decode cX6_cuts 7 = .ok (.i2l, 1) := by decide +kernel
theorem dX6_cuts_8 : decode cX6_cuts 8 = .ok (.invokestatic 90, 3) := by decide +kernel
theorem dX6_cuts_11 : decode cX6_cuts 11 = .ok (.ifCond .eq 8, 3) := by decide +kernel
theorem dX6_cuts_14 : decode cX6_cuts 14 = .ok (.iload_n 2, 1) := by decide +kernel
theorem dX6_cuts_15 : decode cX6_cuts 15 = .ok (.iconst (-1), 1) := by decide +kernel
theorem dX6_cuts_16 : decode cX6_cuts 16 = .ok (.if_icmp .ge 5, 3) := by decide +kernel
theorem dX6_cuts_19 : decode cX6_cuts 19 = .ok (.iconst (-1), 1) := by decide +kernel
theorem dX6_cuts_20 : decode cX6_cuts 20 = .ok (.ireturn, 1) := by decide +kernel
theorem dX6_cuts_21 : decode cX6_cuts 21 = .ok (.aload_n 0, 1) := by decide +kernel
theorem dX6_cuts_22 : decode cX6_cuts 22 = .ok (.iload_n 1, 1) := by decide +kernel
theorem dX6_cuts_23 : decode cX6_cuts 23 = .ok (.iconst 1, 1) := by decide +kernel
theorem dX6_cuts_24 : decode cX6_cuts 24 = .ok (.invokevirtual 126, 3) := by decide +kernel
theorem dX6_cuts_27 : decode cX6_cuts 27 = .ok (.iload_n 2, 1) := by decide +kernel
theorem dX6_cuts_28 : decode cX6_cuts 28 = .ok (.iconst (-1), 1) := by decide +kernel
theorem dX6_cuts_29 : decode cX6_cuts 29 = .ok (.if_icmp .eq 13, 3) := by decide +kernel
theorem dX6_cuts_32 : decode cX6_cuts 32 = .ok (.iload_n 2, 1) := by decide +kernel
theorem dX6_cuts_33 : decode cX6_cuts 33 = .ok (.aload_n 0, 1) := by decide +kernel
theorem dX6_cuts_34 : decode cX6_cuts 34 = .ok (.getfield 44, 3) := by decide +kernel
theorem dX6_cuts_37 : decode cX6_cuts 37 = .ok (.iconst 0, 1) := by decide +kernel
theorem dX6_cuts_38 : decode cX6_cuts 38 = .ok (.iaload, 1) := by decide +kernel
theorem dX6_cuts_39 : decode cX6_cuts 39 = .ok (.if_icmp .lt 20, 3) := by decide +kernel
theorem dX6_cuts_42 : decode cX6_cuts 42 = .ok (.iload_n 2, 1) := by decide +kernel
theorem dX6_cuts_43 : decode cX6_cuts 43 = .ok (.iconst (-1), 1) := by decide +kernel
theorem dX6_cuts_44 : decode cX6_cuts 44 = .ok (.if_icmp .ne 12, 3) := by decide +kernel
theorem dX6_cuts_47 : decode cX6_cuts 47 = .ok (.aload_n 0, 1) := by decide +kernel
theorem dX6_cuts_48 : decode cX6_cuts 48 = .ok (.getfield 44, 3) := by decide +kernel
theorem dX6_cuts_51 : decode cX6_cuts 51 = .ok (.iconst 0, 1) := by decide +kernel
theorem dX6_cuts_52 : decode cX6_cuts 52 = .ok (.iaload, 1) := by decide +kernel
theorem dX6_cuts_53 : decode cX6_cuts 53 = .ok (.goto 5, 3) := by decide +kernel
theorem dX6_cuts_56 : decode cX6_cuts 56 = .ok (.bipush (-4), 2) := by decide +kernel
theorem dX6_cuts_58 : decode cX6_cuts 58 = .ok (.ireturn, 1) := by decide +kernel
theorem dX6_cuts_59 : decode cX6_cuts 59 = .ok (.iconst 0, 1) := by decide +kernel
theorem dX6_cuts_60 : decode cX6_cuts 60 = .ok (.istore_n 3, 1) := by decide +kernel
theorem dX6_cuts_61 : decode cX6_cuts 61 = .ok (.iconst 0, 1) := by decide +kernel
theorem dX6_cuts_62 : decode cX6_cuts 62 = .ok (.istore 4, 2) := by decide +kernel
theorem dX6_cuts_64 : decode cX6_cuts 64 = .ok (.iconst 0, 1) := by decide +kernel
theorem dX6_cuts_65 : decode cX6_cuts 65 = .ok (.istore 5, 2) := by decide +kernel
theorem dX6_cuts_67 : decode cX6_cuts 67 = .ok (.iload 5, 2) := by decide +kernel
theorem dX6_cuts_69 : decode cX6_cuts 69 = .ok (.iload_n 2, 1) := by decide +kernel
theorem dX6_cuts_70 : decode cX6_cuts 70 = .ok (.if_icmp .gt 53, 3) := by decide +kernel
theorem dX6_cuts_73 : decode cX6_cuts 73 = .ok (.iload_n 3, 1) := by decide +kernel
theorem dX6_cuts_74 : decode cX6_cuts 74 = .ok (.iload 4, 2) := by decide +kernel
theorem dX6_cuts_76 : decode cX6_cuts 76 = .ok (.iadd, 1) := by decide +kernel
theorem dX6_cuts_77 : decode cX6_cuts 77 = .ok (.istore_n 3, 1) := by decide +kernel
theorem dX6_cuts_78 : decode cX6_cuts 78 = .ok (.iconst 1, 1) := by decide +kernel
theorem dX6_cuts_79 : decode cX6_cuts 79 = .ok (.istore 4, 2) := by decide +kernel
theorem dX6_cuts_81 : decode cX6_cuts 81 = .ok (.aload_n 0, 1) := by decide +kernel
theorem dX6_cuts_82 : decode cX6_cuts 82 = .ok (.iload_n 3, 1) := by decide +kernel
theorem dX6_cuts_83 : decode cX6_cuts 83 = .ok (.iload 4, 2) := by decide +kernel
theorem dX6_cuts_85 : decode cX6_cuts 85 = .ok (.invokevirtual 53, 3) := by decide +kernel
theorem dX6_cuts_88 : decode cX6_cuts 88 = .ok (.ifCond .eq 23, 3) := by decide +kernel
theorem dX6_cuts_91 : decode cX6_cuts 91 = .ok (.aload_n 0, 1) := by decide +kernel
theorem dX6_cuts_92 : decode cX6_cuts 92 = .ok (.getfield 44, 3) := by decide +kernel
theorem dX6_cuts_95 : decode cX6_cuts 95 = .ok (.iload_n 3, 1) := by decide +kernel
theorem dX6_cuts_96 : decode cX6_cuts 96 = .ok (.iload 4, 2) := by decide +kernel
theorem dX6_cuts_98 : decode cX6_cuts 98 = .ok (.iadd, 1) := by decide +kernel
theorem dX6_cuts_99 : decode cX6_cuts 99 = .ok (.iaload, 1) := by decide +kernel
theorem dX6_cuts_100 : decode cX6_cuts 100 = .ok (.aload_n 0, 1) := by decide +kernel
theorem dX6_cuts_101 : decode cX6_cuts 101 = .ok (.getfield 44, 3) := by decide +kernel
theorem dX6_cuts_104 : decode cX6_cuts 104 = .ok (.iload_n 3, 1) := by decide +kernel
theorem dX6_cuts_105 : decode cX6_cuts 105 = .ok (.iaload, 1) := by decide +kernel
theorem dX6_cuts_106 : decode cX6_cuts 106 = .ok (.iconst 1, 1) := by decide +kernel
theorem dX6_cuts_107 : decode cX6_cuts 107 = .ok (.isub, 1) := by decide +kernel
theorem dX6_cuts_108 : decode cX6_cuts 108 = .ok (.if_icmp .eq 9, 3) := by decide +kernel
theorem dX6_cuts_111 : decode cX6_cuts 111 = .ok (.iinc 4 1, 3) := by decide +kernel
theorem dX6_cuts_114 : decode cX6_cuts 114 = .ok (.goto (-33), 3) := by decide +kernel
theorem dX6_cuts_117 : decode cX6_cuts 117 = .ok (.iinc 5 1, 3) := by decide +kernel
theorem dX6_cuts_120 : decode cX6_cuts 120 = .ok (.goto (-53), 3) := by decide +kernel
theorem dX6_cuts_123 : decode cX6_cuts 123 = .ok (.iload 4, 2) := by decide +kernel
theorem dX6_cuts_125 : decode cX6_cuts 125 = .ok (.ireturn, 1) := by decide +kernel
theorem dX6_evens_0 : decode cX6_evens 0 = .ok (.iload_n 1, 1) := by decide +kernel
theorem dX6_evens_1 : decode cX6_evens 1 = .ok (.i2l, 1) := by decide +kernel
theorem dX6_evens_2 : decode cX6_evens 2 = .ok (.lconst 0, 1) := by decide +kernel
theorem dX6_evens_3 : decode cX6_evens 3 = .ok (.aload_n 0, 1) := by decide +kernel
theorem dX6_evens_4 : decode cX6_evens 4 = .ok (.getfield 69, 3) := by decide +kernel
theorem dX6_evens_7 : decode cX6_evens 7 = .ok (.i2l, 1) := by decide +kernel
theorem dX6_evens_8 : decode cX6_evens 8 = .ok (.invokestatic 90, 3) := by decide +kernel
theorem dX6_evens_11 : decode cX6_evens 11 = .ok (.ifCond .ne 5, 3) := by decide +kernel
theorem dX6_evens_14 : decode cX6_evens 14 = .ok (.iconst (-1), 1) := by decide +kernel
theorem dX6_evens_15 : decode cX6_evens 15 = .ok (.ireturn, 1) := by decide +kernel
theorem dX6_evens_16 : decode cX6_evens 16 = .ok (.aload_n 0, 1) := by decide +kernel
theorem dX6_evens_17 : decode cX6_evens 17 = .ok (.iload_n 1, 1) := by decide +kernel
theorem dX6_evens_18 : decode cX6_evens 18 = .ok (.iconst 2, 1) := by decide +kernel
theorem dX6_evens_19 : decode cX6_evens 19 = .ok (.invokevirtual 126, 3) := by decide +kernel
theorem dX6_evens_22 : decode cX6_evens 22 = .ok (.aload_n 0, 1) := by decide +kernel
theorem dX6_evens_23 : decode cX6_evens 23 = .ok (.getfield 44, 3) := by decide +kernel
theorem dX6_evens_26 : decode cX6_evens 26 = .ok (.iconst 0, 1) := by decide +kernel
theorem dX6_evens_27 : decode cX6_evens 27 = .ok (.iaload, 1) := by decide +kernel
theorem dX6_evens_28 : decode cX6_evens 28 = .ok (.bipush 99, 2) := by decide +kernel
theorem dX6_evens_30 : decode cX6_evens 30 = .ok (.if_icmp .ge 12, 3) := by decide +kernel
theorem dX6_evens_33 : decode cX6_evens 33 = .ok (.aload_n 0, 1) := by decide +kernel
theorem dX6_evens_34 : decode cX6_evens 34 = .ok (.getfield 44, 3) := by decide +kernel
theorem dX6_evens_37 : decode cX6_evens 37 = .ok (.iconst 0, 1) := by decide +kernel
theorem dX6_evens_38 : decode cX6_evens 38 = .ok (.iaload, 1) := by decide +kernel
theorem dX6_evens_39 : decode cX6_evens 39 = .ok (.goto 5, 3) := by decide +kernel
theorem dX6_evens_42 : decode cX6_evens 42 = .ok (.bipush (-4), 2) := by decide +kernel
theorem dX6_evens_44 : decode cX6_evens 44 = .ok (.ireturn, 1) := by decide +kernel
theorem dX6_unlike_0 : decode cX6_unlike 0 = .ok (.iconst 0, 1) := by decide +kernel
theorem dX6_unlike_1 : decode cX6_unlike 1 = .ok (.istore_n 3, 1) := by decide +kernel
theorem dX6_unlike_2 : decode cX6_unlike 2 = .ok (.iload_n 1, 1) := by decide +kernel
theorem dX6_unlike_3 : decode cX6_unlike 3 = .ok (.istore 4, 2) := by decide +kernel
theorem dX6_unlike_5 : decode cX6_unlike 5 = .ok (.iload 4, 2) := by decide +kernel
theorem dX6_unlike_7 : decode cX6_unlike 7 = .ok (.iload_n 2, 1) := by decide +kernel
theorem dX6_unlike_8 : decode cX6_unlike 8 = .ok (.if_icmp .ge 91, 3) := by decide +kernel
theorem dX6_unlike_11 : decode cX6_unlike 11 = .ok (.iconst 1, 1) := by decide +kernel
theorem dX6_unlike_12 : decode cX6_unlike 12 = .ok (.istore 5, 2) := by decide +kernel
theorem dX6_unlike_14 : decode cX6_unlike 14 = .ok (.iload 4, 2) := by decide +kernel
theorem dX6_unlike_16 : decode cX6_unlike 16 = .ok (.iload 5, 2) := by decide +kernel
theorem dX6_unlike_18 : decode cX6_unlike 18 = .ok (.iadd, 1) := by decide +kernel
theorem dX6_unlike_19 : decode cX6_unlike 19 = .ok (.iload_n 2, 1) := by decide +kernel
theorem dX6_unlike_20 : decode cX6_unlike 20 = .ok (.if_icmp .gt 73, 3) := by decide +kernel
theorem dX6_unlike_23 : decode cX6_unlike 23 = .ok (.aload_n 0, 1) := by decide +kernel
theorem dX6_unlike_24 : decode cX6_unlike 24 = .ok (.iload 4, 2) := by decide +kernel
theorem dX6_unlike_26 : decode cX6_unlike 26 = .ok (.iload 5, 2) := by decide +kernel
theorem dX6_unlike_28 : decode cX6_unlike 28 = .ok (.invokevirtual 53, 3) := by decide +kernel
theorem dX6_unlike_31 : decode cX6_unlike 31 = .ok (.istore 6, 2) := by decide +kernel
theorem dX6_unlike_33 : decode cX6_unlike 33 = .ok (.iload_n 1, 1) := by decide +kernel
theorem dX6_unlike_34 : decode cX6_unlike 34 = .ok (.istore 7, 2) := by decide +kernel
theorem dX6_unlike_36 : decode cX6_unlike 36 = .ok (.iload 7, 2) := by decide +kernel
theorem dX6_unlike_38 : decode cX6_unlike 38 = .ok (.iload 4, 2) := by decide +kernel
theorem dX6_unlike_40 : decode cX6_unlike 40 = .ok (.if_icmp .ge 34, 3) := by decide +kernel
theorem dX6_unlike_43 : decode cX6_unlike 43 = .ok (.iload 6, 2) := by decide +kernel
theorem dX6_unlike_45 : decode cX6_unlike 45 = .ok (.ifCond .eq 29, 3) := by decide +kernel
theorem dX6_unlike_48 : decode cX6_unlike 48 = .ok (.aload_n 0, 1) := by decide +kernel
theorem dX6_unlike_49 : decode cX6_unlike 49 = .ok (.iload 7, 2) := by decide +kernel
theorem dX6_unlike_51 : decode cX6_unlike 51 = .ok (.iload 4, 2) := by decide +kernel
theorem dX6_unlike_53 : decode cX6_unlike 53 = .ok (.iload 5, 2) := by decide +kernel
theorem dX6_unlike_55 : decode cX6_unlike 55 = .ok (.invokevirtual 61, 3) := by decide +kernel
theorem dX6_unlike_58 : decode cX6_unlike 58 = .ok (.ifCond .ne 7, 3) := by decide +kernel
theorem dX6_unlike_61 : decode cX6_unlike 61 = .ok (.iconst 1, 1) := by decide +kernel
theorem dX6_unlike_62 : decode cX6_unlike 62 = .ok (.goto 4, 3) := by decide +kernel
theorem dX6_unlike_65 : decode cX6_unlike 65 = .ok (.iconst 0, 1) := by decide +kernel
theorem dX6_unlike_66 : decode cX6_unlike 66 = .ok (.istore 6, 2) := by decide +kernel
theorem dX6_unlike_68 : decode cX6_unlike 68 = .ok (.iinc 7 1, 3) := by decide +kernel
theorem dX6_unlike_71 : decode cX6_unlike 71 = .ok (.goto (-35), 3) := by decide +kernel
theorem dX6_unlike_74 : decode cX6_unlike 74 = .ok (.iload_n 3, 1) := by decide +kernel
theorem dX6_unlike_75 : decode cX6_unlike 75 = .ok (.iload 6, 2) := by decide +kernel
theorem dX6_unlike_77 : decode cX6_unlike 77 = .ok (.ifCond .eq 7, 3) := by decide +kernel
theorem dX6_unlike_80 : decode cX6_unlike 80 = .ok (.iconst 1, 1) := by decide +kernel
theorem dX6_unlike_81 : decode cX6_unlike 81 = .ok (.goto 4, 3) := by decide +kernel
theorem dX6_unlike_84 : decode cX6_unlike 84 = .ok (.iconst 0, 1) := by decide +kernel
theorem dX6_unlike_85 : decode cX6_unlike 85 = .ok (.iadd, 1) := by decide +kernel
theorem dX6_unlike_86 : decode cX6_unlike 86 = .ok (.istore_n 3, 1) := by decide +kernel
theorem dX6_unlike_87 : decode cX6_unlike 87 = .ok (.iinc 5 1, 3) := by decide +kernel
theorem dX6_unlike_90 : decode cX6_unlike 90 = .ok (.goto (-76), 3) := by decide +kernel
theorem dX6_unlike_93 : decode cX6_unlike 93 = .ok (.iinc 4 1, 3) := by decide +kernel
theorem dX6_unlike_96 : decode cX6_unlike 96 = .ok (.goto (-91), 3) := by decide +kernel
theorem dX6_unlike_99 : decode cX6_unlike 99 = .ok (.iload_n 3, 1) := by decide +kernel
theorem dX6_unlike_100 : decode cX6_unlike 100 = .ok (.ireturn, 1) := by decide +kernel
theorem dX6_in_0 : decode cX6_in 0 = .ok (.iload_n 1, 1) := by decide +kernel
theorem dX6_in_1 : decode cX6_in 1 = .ok (.ifCond .lt 28, 3) := by decide +kernel
theorem dX6_in_4 : decode cX6_in 4 = .ok (.iload_n 2, 1) := by decide +kernel
theorem dX6_in_5 : decode cX6_in 5 = .ok (.iload_n 1, 1) := by decide +kernel
theorem dX6_in_6 : decode cX6_in 6 = .ok (.if_icmp .lt 23, 3) := by decide +kernel
theorem dX6_in_9 : decode cX6_in 9 = .ok (.iload_n 2, 1) := by decide +kernel
theorem dX6_in_10 : decode cX6_in 10 = .ok (.aload_n 0, 1) := by decide +kernel
theorem dX6_in_11 : decode cX6_in 11 = .ok (.getfield 69, 3) := by decide +kernel
theorem dX6_in_14 : decode cX6_in 14 = .ok (.if_icmp .gt 15, 3) := by decide +kernel
theorem dX6_in_17 : decode cX6_in 17 = .ok (.iload_n 3, 1) := by decide +kernel
theorem dX6_in_18 : decode cX6_in 18 = .ok (.i2l, 1) := by decide +kernel
theorem dX6_in_19 : decode cX6_in 19 = .ok (.lconst 0, 1) := by decide +kernel
theorem dX6_in_20 : decode cX6_in 20 = .ok (.ldc2_w 130, 3) := by decide +kernel
theorem dX6_in_23 : decode cX6_in 23 = .ok (.invokestatic 90, 3) := by decide +kernel
theorem dX6_in_26 : decode cX6_in 26 = .ok (.ifCond .ne 5, 3) := by decide +kernel
theorem dX6_in_29 : decode cX6_in 29 = .ok (.iconst (-1), 1) := by decide +kernel
theorem dX6_in_30 : decode cX6_in 30 = .ok (.ireturn, 1) := by decide +kernel
theorem dX6_in_31 : decode cX6_in 31 = .ok (.iload_n 3, 1) := by decide +kernel
theorem dX6_in_32 : decode cX6_in 32 = .ok (.iconst 2, 1) := by decide +kernel
theorem dX6_in_33 : decode cX6_in 33 = .ok (.if_icmp .ne 10, 3) := by decide +kernel
theorem dX6_in_36 : decode cX6_in 36 = .ok (.aload_n 0, 1) := by decide +kernel
theorem dX6_in_37 : decode cX6_in 37 = .ok (.iload_n 1, 1) := by decide +kernel
theorem dX6_in_38 : decode cX6_in 38 = .ok (.iload_n 2, 1) := by decide +kernel
theorem dX6_in_39 : decode cX6_in 39 = .ok (.invokevirtual 132, 3) := by decide +kernel
theorem dX6_in_42 : decode cX6_in 42 = .ok (.ireturn, 1) := by decide +kernel
theorem dX6_in_43 : decode cX6_in 43 = .ok (.iload_n 2, 1) := by decide +kernel
theorem dX6_in_44 : decode cX6_in 44 = .ok (.iload_n 1, 1) := by decide +kernel
theorem dX6_in_45 : decode cX6_in 45 = .ok (.isub, 1) := by decide +kernel
theorem dX6_in_46 : decode cX6_in 46 = .ok (.istore 4, 2) := by decide +kernel
theorem dX6_in_48 : decode cX6_in 48 = .ok (.iload 4, 2) := by decide +kernel
theorem dX6_in_50 : decode cX6_in 50 = .ok (.ifCond .le 50, 3) := by decide +kernel
theorem dX6_in_53 : decode cX6_in 53 = .ok (.iload_n 1, 1) := by decide +kernel
theorem dX6_in_54 : decode cX6_in 54 = .ok (.istore 5, 2) := by decide +kernel
theorem dX6_in_56 : decode cX6_in 56 = .ok (.iload 5, 2) := by decide +kernel
theorem dX6_in_58 : decode cX6_in 58 = .ok (.iload 4, 2) := by decide +kernel
theorem dX6_in_60 : decode cX6_in 60 = .ok (.iadd, 1) := by decide +kernel
theorem dX6_in_61 : decode cX6_in 61 = .ok (.iload_n 2, 1) := by decide +kernel
theorem dX6_in_62 : decode cX6_in 62 = .ok (.if_icmp .gt 32, 3) := by decide +kernel
theorem dX6_in_65 : decode cX6_in 65 = .ok (.aload_n 0, 1) := by decide +kernel
theorem dX6_in_66 : decode cX6_in 66 = .ok (.iload 5, 2) := by decide +kernel
theorem dX6_in_68 : decode cX6_in 68 = .ok (.iload 4, 2) := by decide +kernel
theorem dX6_in_70 : decode cX6_in 70 = .ok (.invokevirtual 53, 3) := by decide +kernel
theorem dX6_in_73 : decode cX6_in 73 = .ok (.ifCond .eq 15, 3) := by decide +kernel
theorem dX6_in_76 : decode cX6_in 76 = .ok (.iload_n 3, 1) := by decide +kernel
theorem dX6_in_77 : decode cX6_in 77 = .ok (.ifCond .ne 8, 3) := by decide +kernel
theorem dX6_in_80 : decode cX6_in 80 = .ok (.iload 4, 2) := by decide +kernel
theorem dX6_in_82 : decode cX6_in 82 = .ok (.goto 5, 3) := by decide +kernel
theorem dX6_in_85 : decode cX6_in 85 = .ok (.iload 5, 2) := by decide +kernel
theorem dX6_in_87 : decode cX6_in 87 = .ok (.ireturn, 1) := by decide +kernel
theorem dX6_in_88 : decode cX6_in 88 = .ok (.iinc 5 1, 3) := by decide +kernel
theorem dX6_in_91 : decode cX6_in 91 = .ok (.goto (-35), 3) := by decide +kernel
theorem dX6_in_94 : decode cX6_in 94 = .ok (.iinc 4 (-1), 3) := by decide +kernel
theorem dX6_in_97 : decode cX6_in 97 = .ok (.goto (-49), 3) := by decide +kernel
theorem dX6_in_100 : decode cX6_in 100 = .ok (.iload_n 3, 1) := by decide +kernel
theorem dX6_in_101 : decode cX6_in 101 = .ok (.ifCond .ne 7, 3) := by decide +kernel
theorem dX6_in_104 : decode cX6_in 104 = .ok (.iconst 0, 1) := by decide +kernel
theorem dX6_in_105 : decode cX6_in 105 = .ok (.goto 5, 3) := by decide +kernel
theorem dX6_in_108 : decode cX6_in 108 = .ok (.bipush (-4), 2) := by decide +kernel
theorem dX6_in_110 : decode cX6_in 110 = .ok (.ireturn, 1) := by decide +kernel
theorem dX6_fill_0 : decode cX6_fill 0 = .ok (.iconst 0, 1) := by decide +kernel
theorem dX6_fill_1 : decode cX6_fill 1 = .ok (.istore_n 1, 1) := by decide +kernel
theorem dX6_fill_2 : decode cX6_fill 2 = .ok (.iload_n 1, 1) := by decide +kernel
theorem dX6_fill_3 : decode cX6_fill 3 = .ok (.bipush 48, 2) := by decide +kernel
theorem dX6_fill_5 : decode cX6_fill 5 = .ok (.if_icmp .ge 23, 3) := by decide +kernel
theorem dX6_fill_8 : decode cX6_fill 8 = .ok (.aload_n 0, 1) := by decide +kernel
theorem dX6_fill_9 : decode cX6_fill 9 = .ok (.getfield 44, 3) := by decide +kernel
theorem dX6_fill_12 : decode cX6_fill 12 = .ok (.iload_n 1, 1) := by decide +kernel
theorem dX6_fill_13 : decode cX6_fill 13 = .ok (.iconst 0, 1) := by decide +kernel
theorem dX6_fill_14 : decode cX6_fill 14 = .ok (.iastore, 1) := by decide +kernel
theorem dX6_fill_15 : decode cX6_fill 15 = .ok (.aload_n 0, 1) := by decide +kernel
theorem dX6_fill_16 : decode cX6_fill 16 = .ok (.getfield 50, 3) := by decide +kernel
theorem dX6_fill_19 : decode cX6_fill 19 = .ok (.iload_n 1, 1) := by decide +kernel
theorem dX6_fill_20 : decode cX6_fill 20 = .ok (.iconst 0, 1) := by decide +kernel
theorem dX6_fill_21 : decode cX6_fill 21 = .ok (.iastore, 1) := by decide +kernel
theorem dX6_fill_22 : decode cX6_fill 22 = .ok (.iinc 1 1, 3) := by decide +kernel
theorem dX6_fill_25 : decode cX6_fill 25 = .ok (.goto (-23), 3) := by decide +kernel
theorem dX6_fill_28 : decode cX6_fill 28 = .ok (.iconst 0, 1) := by decide +kernel
theorem dX6_fill_29 : decode cX6_fill 29 = .ok (.istore_n 1, 1) := by decide +kernel
theorem dX6_fill_30 : decode cX6_fill 30 = .ok (.iconst 2, 1) := by decide +kernel
theorem dX6_fill_31 : decode cX6_fill 31 = .ok (.istore_n 2, 1) := by decide +kernel
theorem dX6_fill_32 : decode cX6_fill 32 = .ok (.iload_n 2, 1) := by decide +kernel
theorem dX6_fill_33 : decode cX6_fill 33 = .ok (.aload_n 0, 1) := by decide +kernel
theorem dX6_fill_34 : decode cX6_fill 34 = .ok (.getfield 69, 3) := by decide +kernel
theorem dX6_fill_37 : decode cX6_fill 37 = .ok (.if_icmp .gt 131, 3) := by decide +kernel
theorem dX6_fill_40 : decode cX6_fill 40 = .ok (.iconst 0, 1) := by decide +kernel
theorem dX6_fill_41 : decode cX6_fill 41 = .ok (.istore_n 3, 1) := by decide +kernel
theorem dX6_fill_42 : decode cX6_fill 42 = .ok (.iload_n 3, 1) := by decide +kernel
theorem dX6_fill_43 : decode cX6_fill 43 = .ok (.iload_n 2, 1) := by decide +kernel
theorem dX6_fill_44 : decode cX6_fill 44 = .ok (.iadd, 1) := by decide +kernel
theorem dX6_fill_45 : decode cX6_fill 45 = .ok (.aload_n 0, 1) := by decide +kernel
theorem dX6_fill_46 : decode cX6_fill 46 = .ok (.getfield 69, 3) := by decide +kernel
theorem dX6_fill_49 : decode cX6_fill 49 = .ok (.if_icmp .gt 113, 3) := by decide +kernel
theorem dX6_fill_52 : decode cX6_fill 52 = .ok (.aload_n 0, 1) := by decide +kernel
theorem dX6_fill_53 : decode cX6_fill 53 = .ok (.getfield 7, 3) := by decide +kernel
theorem dX6_fill_56 : decode cX6_fill 56 = .ok (.iload_n 3, 1) := by decide +kernel
theorem dX6_fill_57 : decode cX6_fill 57 = .ok (.iaload, 1) := by decide +kernel
theorem dX6_fill_58 : decode cX6_fill 58 = .ok (.aload_n 0, 1) := by decide +kernel
theorem dX6_fill_59 : decode cX6_fill 59 = .ok (.getfield 7, 3) := by decide +kernel
theorem dX6_fill_62 : decode cX6_fill 62 = .ok (.iload_n 3, 1) := by decide +kernel
theorem dX6_fill_63 : decode cX6_fill 63 = .ok (.iload_n 2, 1) := by decide +kernel
theorem dX6_fill_64 : decode cX6_fill 64 = .ok (.iadd, 1) := by decide +kernel
theorem dX6_fill_65 : decode cX6_fill 65 = .ok (.iconst 1, 1) := by decide +kernel
theorem dX6_fill_66 : decode cX6_fill 66 = .ok (.isub, 1) := by decide +kernel
theorem dX6_fill_67 : decode cX6_fill 67 = .ok (.iaload, 1) := by decide +kernel
theorem dX6_fill_68 : decode cX6_fill 68 = .ok (.if_icmp .ne 7, 3) := by decide +kernel
theorem dX6_fill_71 : decode cX6_fill 71 = .ok (.iconst 1, 1) := by decide +kernel
theorem dX6_fill_72 : decode cX6_fill 72 = .ok (.goto 4, 3) := by decide +kernel
theorem dX6_fill_75 : decode cX6_fill 75 = .ok (.iconst 0, 1) := by decide +kernel
theorem dX6_fill_76 : decode cX6_fill 76 = .ok (.istore 4, 2) := by decide +kernel
theorem dX6_fill_78 : decode cX6_fill 78 = .ok (.aload_n 0, 1) := by decide +kernel
theorem dX6_fill_79 : decode cX6_fill 79 = .ok (.getfield 44, 3) := by decide +kernel
theorem dX6_fill_82 : decode cX6_fill 82 = .ok (.iload_n 3, 1) := by decide +kernel
theorem dX6_fill_83 : decode cX6_fill 83 = .ok (.iaload, 1) := by decide +kernel
theorem dX6_fill_84 : decode cX6_fill 84 = .ok (.aload_n 0, 1) := by decide +kernel
theorem dX6_fill_85 : decode cX6_fill 85 = .ok (.getfield 44, 3) := by decide +kernel
theorem dX6_fill_88 : decode cX6_fill 88 = .ok (.iload_n 3, 1) := by decide +kernel
theorem dX6_fill_89 : decode cX6_fill 89 = .ok (.iconst 1, 1) := by decide +kernel
theorem dX6_fill_90 : decode cX6_fill 90 = .ok (.iadd, 1) := by decide +kernel
theorem dX6_fill_91 : decode cX6_fill 91 = .ok (.iaload, 1) := by decide +kernel
theorem dX6_fill_92 : decode cX6_fill 92 = .ok (.if_icmp .ge 14, 3) := by decide +kernel
theorem dX6_fill_95 : decode cX6_fill 95 = .ok (.aload_n 0, 1) := by decide +kernel
theorem dX6_fill_96 : decode cX6_fill 96 = .ok (.getfield 44, 3) := by decide +kernel
theorem dX6_fill_99 : decode cX6_fill 99 = .ok (.iload_n 3, 1) := by decide +kernel
theorem dX6_fill_100 : decode cX6_fill 100 = .ok (.iaload, 1) := by decide +kernel
theorem dX6_fill_101 : decode cX6_fill 101 = .ok (.iconst 1, 1) := by decide +kernel
theorem dX6_fill_102 : decode cX6_fill 102 = .ok (.iadd, 1) := by decide +kernel
theorem dX6_fill_103 : decode cX6_fill 103 = .ok (.goto 13, 3) := by decide +kernel
theorem dX6_fill_106 : decode cX6_fill 106 = .ok (.aload_n 0, 1) := by decide +kernel
theorem dX6_fill_107 : decode cX6_fill 107 = .ok (.getfield 44, 3) := by decide +kernel
theorem dX6_fill_110 : decode cX6_fill 110 = .ok (.iload_n 3, 1) := by decide +kernel
theorem dX6_fill_111 : decode cX6_fill 111 = .ok (.iconst 1, 1) := by decide +kernel
theorem dX6_fill_112 : decode cX6_fill 112 = .ok (.iadd, 1) := by decide +kernel
theorem dX6_fill_113 : decode cX6_fill 113 = .ok (.iaload, 1) := by decide +kernel
theorem dX6_fill_114 : decode cX6_fill 114 = .ok (.iconst 1, 1) := by decide +kernel
theorem dX6_fill_115 : decode cX6_fill 115 = .ok (.iadd, 1) := by decide +kernel
theorem dX6_fill_116 : decode cX6_fill 116 = .ok (.istore 5, 2) := by decide +kernel
theorem dX6_fill_118 : decode cX6_fill 118 = .ok (.iload 4, 2) := by decide +kernel
theorem dX6_fill_120 : decode cX6_fill 120 = .ok (.ifCond .eq 14, 3) := by decide +kernel
theorem dX6_fill_123 : decode cX6_fill 123 = .ok (.aload_n 0, 1) := by decide +kernel
theorem dX6_fill_124 : decode cX6_fill 124 = .ok (.getfield 50, 3) := by decide +kernel
theorem dX6_fill_127 : decode cX6_fill 127 = .ok (.iload_n 3, 1) := by decide +kernel
theorem dX6_fill_128 : decode cX6_fill 128 = .ok (.iconst 1, 1) := by decide +kernel
theorem dX6_fill_129 : decode cX6_fill 129 = .ok (.iadd, 1) := by decide +kernel
theorem dX6_fill_130 : decode cX6_fill 130 = .ok (.iaload, 1) := by decide +kernel
theorem dX6_fill_131 : decode cX6_fill 131 = .ok (.goto 5, 3) := by decide +kernel
theorem dX6_fill_134 : decode cX6_fill 134 = .ok (.iload 5, 2) := by decide +kernel
theorem dX6_fill_136 : decode cX6_fill 136 = .ok (.istore_n 1, 1) := by decide +kernel
theorem dX6_fill_137 : decode cX6_fill 137 = .ok (.aload_n 0, 1) := by decide +kernel
theorem dX6_fill_138 : decode cX6_fill 138 = .ok (.getfield 50, 3) := by decide +kernel
theorem dX6_fill_141 : decode cX6_fill 141 = .ok (.iload_n 3, 1) := by decide +kernel
theorem dX6_fill_142 : decode cX6_fill 142 = .ok (.aload_n 0, 1) := by decide +kernel
theorem dX6_fill_143 : decode cX6_fill 143 = .ok (.getfield 44, 3) := by decide +kernel
theorem dX6_fill_146 : decode cX6_fill 146 = .ok (.iload_n 3, 1) := by decide +kernel
theorem dX6_fill_147 : decode cX6_fill 147 = .ok (.iaload, 1) := by decide +kernel
theorem dX6_fill_148 : decode cX6_fill 148 = .ok (.iastore, 1) := by decide +kernel
theorem dX6_fill_149 : decode cX6_fill 149 = .ok (.aload_n 0, 1) := by decide +kernel
theorem dX6_fill_150 : decode cX6_fill 150 = .ok (.getfield 44, 3) := by decide +kernel
theorem dX6_fill_153 : decode cX6_fill 153 = .ok (.iload_n 3, 1) := by decide +kernel
theorem dX6_fill_154 : decode cX6_fill 154 = .ok (.iload_n 1, 1) := by decide +kernel
theorem dX6_fill_155 : decode cX6_fill 155 = .ok (.iastore, 1) := by decide +kernel
theorem dX6_fill_156 : decode cX6_fill 156 = .ok (.iinc 3 1, 3) := by decide +kernel
theorem dX6_fill_159 : decode cX6_fill 159 = .ok (.goto (-117), 3) := by decide +kernel
theorem dX6_fill_162 : decode cX6_fill 162 = .ok (.iinc 2 1, 3) := by decide +kernel
theorem dX6_fill_165 : decode cX6_fill 165 = .ok (.goto (-133), 3) := by decide +kernel
theorem dX6_fill_168 : decode cX6_fill 168 = .ok (.aload_n 0, 1) := by decide +kernel
theorem dX6_fill_169 : decode cX6_fill 169 = .ok (.getfield 69, 3) := by decide +kernel
theorem dX6_fill_172 : decode cX6_fill 172 = .ok (.ifCond .ne 7, 3) := by decide +kernel
theorem dX6_fill_175 : decode cX6_fill 175 = .ok (.iconst 0, 1) := by decide +kernel
theorem dX6_fill_176 : decode cX6_fill 176 = .ok (.goto 9, 3) := by decide +kernel
theorem dX6_fill_179 : decode cX6_fill 179 = .ok (.aload_n 0, 1) := by decide +kernel
theorem dX6_fill_180 : decode cX6_fill 180 = .ok (.getfield 44, 3) := by decide +kernel
theorem dX6_fill_183 : decode cX6_fill 183 = .ok (.iconst 0, 1) := by decide +kernel
theorem dX6_fill_184 : decode cX6_fill 184 = .ok (.iaload, 1) := by decide +kernel
theorem dX6_fill_185 : decode cX6_fill 185 = .ok (.ireturn, 1) := by decide +kernel
theorem dX6_mend_0 : decode cX6_mend 0 = .ok (.iload_n 1, 1) := by decide +kernel
theorem dX6_mend_1 : decode cX6_mend 1 = .ok (.i2l, 1) := by decide +kernel
theorem dX6_mend_2 : decode cX6_mend 2 = .ok (.lconst 0, 1) := by decide +kernel
theorem dX6_mend_3 : decode cX6_mend 3 = .ok (.lconst 1, 1) := by decide +kernel
theorem dX6_mend_4 : decode cX6_mend 4 = .ok (.invokestatic 90, 3) := by decide +kernel
theorem dX6_mend_7 : decode cX6_mend 7 = .ok (.ifCond .ne 5, 3) := by decide +kernel
theorem dX6_mend_10 : decode cX6_mend 10 = .ok (.iconst (-1), 1) := by decide +kernel
theorem dX6_mend_11 : decode cX6_mend 11 = .ok (.ireturn, 1) := by decide +kernel
theorem dX6_mend_12 : decode cX6_mend 12 = .ok (.iconst 0, 1) := by decide +kernel
theorem dX6_mend_13 : decode cX6_mend 13 = .ok (.istore_n 2, 1) := by decide +kernel
theorem dX6_mend_14 : decode cX6_mend 14 = .ok (.iconst 0, 1) := by decide +kernel
theorem dX6_mend_15 : decode cX6_mend 15 = .ok (.istore_n 3, 1) := by decide +kernel
theorem dX6_mend_16 : decode cX6_mend 16 = .ok (.iload_n 3, 1) := by decide +kernel
theorem dX6_mend_17 : decode cX6_mend 17 = .ok (.aload_n 0, 1) := by decide +kernel
theorem dX6_mend_18 : decode cX6_mend 18 = .ok (.getfield 69, 3) := by decide +kernel
theorem dX6_mend_21 : decode cX6_mend 21 = .ok (.iconst 2, 1) := by decide +kernel
theorem dX6_mend_22 : decode cX6_mend 22 = .ok (.idiv, 1) := by decide +kernel
theorem dX6_mend_23 : decode cX6_mend 23 = .ok (.if_icmp .ge 39, 3) := by decide +kernel
theorem dX6_mend_26 : decode cX6_mend 26 = .ok (.iload_n 2, 1) := by decide +kernel
theorem dX6_mend_27 : decode cX6_mend 27 = .ok (.aload_n 0, 1) := by decide +kernel
theorem dX6_mend_28 : decode cX6_mend 28 = .ok (.getfield 7, 3) := by decide +kernel
theorem dX6_mend_31 : decode cX6_mend 31 = .ok (.iload_n 3, 1) := by decide +kernel
theorem dX6_mend_32 : decode cX6_mend 32 = .ok (.iaload, 1) := by decide +kernel
theorem dX6_mend_33 : decode cX6_mend 33 = .ok (.aload_n 0, 1) := by decide +kernel
theorem dX6_mend_34 : decode cX6_mend 34 = .ok (.getfield 7, 3) := by decide +kernel
theorem dX6_mend_37 : decode cX6_mend 37 = .ok (.aload_n 0, 1) := by decide +kernel
theorem dX6_mend_38 : decode cX6_mend 38 = .ok (.getfield 69, 3) := by decide +kernel
theorem dX6_mend_41 : decode cX6_mend 41 = .ok (.iconst 1, 1) := by decide +kernel
theorem dX6_mend_42 : decode cX6_mend 42 = .ok (.isub, 1) := by decide +kernel
theorem dX6_mend_43 : decode cX6_mend 43 = .ok (.iload_n 3, 1) := by decide +kernel
theorem dX6_mend_44 : decode cX6_mend 44 = .ok (.isub, 1) := by decide +kernel
theorem dX6_mend_45 : decode cX6_mend 45 = .ok (.iaload, 1) := by decide +kernel
theorem dX6_mend_46 : decode cX6_mend 46 = .ok (.if_icmp .ne 7, 3) := by decide +kernel
theorem dX6_mend_49 : decode cX6_mend 49 = .ok (.iconst 0, 1) := by decide +kernel
theorem dX6_mend_50 : decode cX6_mend 50 = .ok (.goto 4, 3) := by decide +kernel
theorem dX6_mend_53 : decode cX6_mend 53 = .ok (.iconst 1, 1) := by decide +kernel
theorem dX6_mend_54 : decode cX6_mend 54 = .ok (.iadd, 1) := by decide +kernel
theorem dX6_mend_55 : decode cX6_mend 55 = .ok (.istore_n 2, 1) := by decide +kernel
theorem dX6_mend_56 : decode cX6_mend 56 = .ok (.iinc 3 1, 3) := by decide +kernel
theorem dX6_mend_59 : decode cX6_mend 59 = .ok (.goto (-43), 3) := by decide +kernel
theorem dX6_mend_62 : decode cX6_mend 62 = .ok (.iload_n 1, 1) := by decide +kernel
theorem dX6_mend_63 : decode cX6_mend 63 = .ok (.ifCond .ne 7, 3) := by decide +kernel
theorem dX6_mend_66 : decode cX6_mend 66 = .ok (.iload_n 2, 1) := by decide +kernel
theorem dX6_mend_67 : decode cX6_mend 67 = .ok (.goto 7, 3) := by decide +kernel
theorem dX6_mend_70 : decode cX6_mend 70 = .ok (.aload_n 0, 1) := by decide +kernel
theorem dX6_mend_71 : decode cX6_mend 71 = .ok (.invokevirtual 135, 3) := by decide +kernel
theorem dX6_mend_74 : decode cX6_mend 74 = .ok (.ireturn, 1) := by decide +kernel
theorem dX6_isTurned_0 : decode cX6_isTurned 0 = .ok (.iconst 1, 1) := by decide +kernel
theorem dX6_isTurned_1 : decode cX6_isTurned 1 = .ok (.istore_n 2, 1) := by decide +kernel
theorem dX6_isTurned_2 : decode cX6_isTurned 2 = .ok (.iconst 0, 1) := by decide +kernel
theorem dX6_isTurned_3 : decode cX6_isTurned 3 = .ok (.istore_n 3, 1) := by decide +kernel
theorem dX6_isTurned_4 : decode cX6_isTurned 4 = .ok (.iload_n 3, 1) := by decide +kernel
theorem dX6_isTurned_5 : decode cX6_isTurned 5 = .ok (.aload_n 0, 1) := by decide +kernel
theorem dX6_isTurned_6 : decode cX6_isTurned 6 = .ok (.getfield 69, 3) := by decide +kernel
theorem dX6_isTurned_9 : decode cX6_isTurned 9 = .ok (.iconst 2, 1) := by decide +kernel
theorem dX6_isTurned_10 : decode cX6_isTurned 10 = .ok (.idiv, 1) := by decide +kernel
theorem dX6_isTurned_11 : decode cX6_isTurned 11 = .ok (.if_icmp .ge 55, 3) := by decide +kernel
theorem dX6_isTurned_14 : decode cX6_isTurned 14 = .ok (.iload_n 2, 1) := by decide +kernel
theorem dX6_isTurned_15 : decode cX6_isTurned 15 = .ok (.ifCond .eq 51, 3) := by decide +kernel
theorem dX6_isTurned_18 : decode cX6_isTurned 18 = .ok (.aload_n 0, 1) := by decide +kernel
theorem dX6_isTurned_19 : decode cX6_isTurned 19 = .ok (.getfield 7, 3) := by decide +kernel
theorem dX6_isTurned_22 : decode cX6_isTurned 22 = .ok (.iload_n 1, 1) := by decide +kernel
theorem dX6_isTurned_23 : decode cX6_isTurned 23 = .ok (.iload_n 3, 1) := by decide +kernel
theorem dX6_isTurned_24 : decode cX6_isTurned 24 = .ok (.iadd, 1) := by decide +kernel
theorem dX6_isTurned_25 : decode cX6_isTurned 25 = .ok (.aload_n 0, 1) := by decide +kernel
theorem dX6_isTurned_26 : decode cX6_isTurned 26 = .ok (.getfield 69, 3) := by decide +kernel
theorem dX6_isTurned_29 : decode cX6_isTurned 29 = .ok (.irem, 1) := by decide +kernel
theorem dX6_isTurned_30 : decode cX6_isTurned 30 = .ok (.iaload, 1) := by decide +kernel
theorem dX6_isTurned_31 : decode cX6_isTurned 31 = .ok (.aload_n 0, 1) := by decide +kernel
theorem dX6_isTurned_32 : decode cX6_isTurned 32 = .ok (.getfield 7, 3) := by decide +kernel
theorem dX6_isTurned_35 : decode cX6_isTurned 35 = .ok (.iload_n 1, 1) := by decide +kernel
theorem dX6_isTurned_36 : decode cX6_isTurned 36 = .ok (.aload_n 0, 1) := by decide +kernel
theorem dX6_isTurned_37 : decode cX6_isTurned 37 = .ok (.getfield 69, 3) := by decide +kernel
theorem dX6_isTurned_40 : decode cX6_isTurned 40 = .ok (.iadd, 1) := by decide +kernel
theorem dX6_isTurned_41 : decode cX6_isTurned 41 = .ok (.iconst 1, 1) := by decide +kernel
theorem dX6_isTurned_42 : decode cX6_isTurned 42 = .ok (.isub, 1) := by decide +kernel
theorem dX6_isTurned_43 : decode cX6_isTurned 43 = .ok (.iload_n 3, 1) := by decide +kernel
theorem dX6_isTurned_44 : decode cX6_isTurned 44 = .ok (.isub, 1) := by decide +kernel
theorem dX6_isTurned_45 : decode cX6_isTurned 45 = .ok (.aload_n 0, 1) := by decide +kernel
theorem dX6_isTurned_46 : decode cX6_isTurned 46 = .ok (.getfield 69, 3) := by decide +kernel
theorem dX6_isTurned_49 : decode cX6_isTurned 49 = .ok (.irem, 1) := by decide +kernel
theorem dX6_isTurned_50 : decode cX6_isTurned 50 = .ok (.iaload, 1) := by decide +kernel
theorem dX6_isTurned_51 : decode cX6_isTurned 51 = .ok (.if_icmp .ne 7, 3) := by decide +kernel
theorem dX6_isTurned_54 : decode cX6_isTurned 54 = .ok (.iconst 1, 1) := by decide +kernel
theorem dX6_isTurned_55 : decode cX6_isTurned 55 = .ok (.goto 4, 3) := by decide +kernel
theorem dX6_isTurned_58 : decode cX6_isTurned 58 = .ok (.iconst 0, 1) := by decide +kernel
theorem dX6_isTurned_59 : decode cX6_isTurned 59 = .ok (.istore_n 2, 1) := by decide +kernel
theorem dX6_isTurned_60 : decode cX6_isTurned 60 = .ok (.iinc 3 1, 3) := by decide +kernel
theorem dX6_isTurned_63 : decode cX6_isTurned 63 = .ok (.goto (-59), 3) := by decide +kernel
theorem dX6_isTurned_66 : decode cX6_isTurned 66 = .ok (.iload_n 2, 1) := by decide +kernel
theorem dX6_isTurned_67 : decode cX6_isTurned 67 = .ok (.ireturn, 1) := by decide +kernel
theorem dX6_turned_0 : decode cX6_turned 0 = .ok (.iload_n 1, 1) := by decide +kernel
theorem dX6_turned_1 : decode cX6_turned 1 = .ok (.i2l, 1) := by decide +kernel
theorem dX6_turned_2 : decode cX6_turned 2 = .ok (.lconst 0, 1) := by decide +kernel
theorem dX6_turned_3 : decode cX6_turned 3 = .ok (.lconst 1, 1) := by decide +kernel
theorem dX6_turned_4 : decode cX6_turned 4 = .ok (.invokestatic 90, 3) := by decide +kernel
theorem dX6_turned_7 : decode cX6_turned 7 = .ok (.ifCond .ne 5, 3) := by decide +kernel
theorem dX6_turned_10 : decode cX6_turned 10 = .ok (.iconst (-1), 1) := by decide +kernel
theorem dX6_turned_11 : decode cX6_turned 11 = .ok (.ireturn, 1) := by decide +kernel
theorem dX6_turned_12 : decode cX6_turned 12 = .ok (.iconst 0, 1) := by decide +kernel
theorem dX6_turned_13 : decode cX6_turned 13 = .ok (.istore_n 2, 1) := by decide +kernel
theorem dX6_turned_14 : decode cX6_turned 14 = .ok (.bipush (-4), 2) := by decide +kernel
theorem dX6_turned_16 : decode cX6_turned 16 = .ok (.istore_n 3, 1) := by decide +kernel
theorem dX6_turned_17 : decode cX6_turned 17 = .ok (.aload_n 0, 1) := by decide +kernel
theorem dX6_turned_18 : decode cX6_turned 18 = .ok (.getfield 69, 3) := by decide +kernel
theorem dX6_turned_21 : decode cX6_turned 21 = .ok (.iconst 1, 1) := by decide +kernel
theorem dX6_turned_22 : decode cX6_turned 22 = .ok (.isub, 1) := by decide +kernel
theorem dX6_turned_23 : decode cX6_turned 23 = .ok (.istore 4, 2) := by decide +kernel
theorem dX6_turned_25 : decode cX6_turned 25 = .ok (.iload 4, 2) := by decide +kernel
theorem dX6_turned_27 : decode cX6_turned 27 = .ok (.ifCond .lt 42, 3) := by decide +kernel
theorem dX6_turned_30 : decode cX6_turned 30 = .ok (.iload_n 2, 1) := by decide +kernel
theorem dX6_turned_31 : decode cX6_turned 31 = .ok (.aload_n 0, 1) := by decide +kernel
theorem dX6_turned_32 : decode cX6_turned 32 = .ok (.iload 4, 2) := by decide +kernel
theorem dX6_turned_34 : decode cX6_turned 34 = .ok (.invokevirtual 139, 3) := by decide +kernel
theorem dX6_turned_37 : decode cX6_turned 37 = .ok (.ifCond .eq 7, 3) := by decide +kernel
theorem dX6_turned_40 : decode cX6_turned 40 = .ok (.iconst 1, 1) := by decide +kernel
theorem dX6_turned_41 : decode cX6_turned 41 = .ok (.goto 4, 3) := by decide +kernel
theorem dX6_turned_44 : decode cX6_turned 44 = .ok (.iconst 0, 1) := by decide +kernel
theorem dX6_turned_45 : decode cX6_turned 45 = .ok (.iadd, 1) := by decide +kernel
theorem dX6_turned_46 : decode cX6_turned 46 = .ok (.istore_n 2, 1) := by decide +kernel
theorem dX6_turned_47 : decode cX6_turned 47 = .ok (.aload_n 0, 1) := by decide +kernel
theorem dX6_turned_48 : decode cX6_turned 48 = .ok (.iload 4, 2) := by decide +kernel
theorem dX6_turned_50 : decode cX6_turned 50 = .ok (.invokevirtual 139, 3) := by decide +kernel
theorem dX6_turned_53 : decode cX6_turned 53 = .ok (.ifCond .eq 8, 3) := by decide +kernel
theorem dX6_turned_56 : decode cX6_turned 56 = .ok (.iload 4, 2) := by decide +kernel
theorem dX6_turned_58 : decode cX6_turned 58 = .ok (.goto 4, 3) := by decide +kernel
theorem dX6_turned_61 : decode cX6_turned 61 = .ok (.iload_n 3, 1) := by decide +kernel
theorem dX6_turned_62 : decode cX6_turned 62 = .ok (.istore_n 3, 1) := by decide +kernel
theorem dX6_turned_63 : decode cX6_turned 63 = .ok (.iinc 4 (-1), 3) := by decide +kernel
theorem dX6_turned_66 : decode cX6_turned 66 = .ok (.goto (-41), 3) := by decide +kernel
theorem dX6_turned_69 : decode cX6_turned 69 = .ok (.iload_n 1, 1) := by decide +kernel
theorem dX6_turned_70 : decode cX6_turned 70 = .ok (.ifCond .ne 7, 3) := by decide +kernel
theorem dX6_turned_73 : decode cX6_turned 73 = .ok (.iload_n 2, 1) := by decide +kernel
theorem dX6_turned_74 : decode cX6_turned 74 = .ok (.goto 4, 3) := by decide +kernel
theorem dX6_turned_77 : decode cX6_turned 77 = .ok (.iload_n 3, 1) := by decide +kernel
theorem dX6_turned_78 : decode cX6_turned 78 = .ok (.ireturn, 1) := by decide +kernel
theorem dX6_next_0 : decode cX6_next 0 = .ok (.iload_n 1, 1) := by decide +kernel
theorem dX6_next_1 : decode cX6_next 1 = .ok (.invokestatic 101, 3) := by decide +kernel
theorem dX6_next_4 : decode cX6_next 4 = .ok (.ifCond .eq 13, 3) := by decide +kernel
theorem dX6_next_7 : decode cX6_next 7 = .ok (.iload_n 2, 1) := by decide +kernel
theorem dX6_next_8 : decode cX6_next 8 = .ok (.i2l, 1) := by decide +kernel
theorem dX6_next_9 : decode cX6_next 9 = .ok (.lconst 0, 1) := by decide +kernel
theorem dX6_next_10 : decode cX6_next 10 = .ok (.lconst 1, 1) := by decide +kernel
theorem dX6_next_11 : decode cX6_next 11 = .ok (.invokestatic 90, 3) := by decide +kernel
theorem dX6_next_14 : decode cX6_next 14 = .ok (.ifCond .ne 5, 3) := by decide +kernel
theorem dX6_next_17 : decode cX6_next 17 = .ok (.iconst (-1), 1) := by decide +kernel
theorem dX6_next_18 : decode cX6_next 18 = .ok (.ireturn, 1) := by decide +kernel
theorem dX6_next_19 : decode cX6_next 19 = .ok (.aload_n 0, 1) := by decide +kernel
theorem dX6_next_20 : decode cX6_next 20 = .ok (.getfield 69, 3) := by decide +kernel
theorem dX6_next_23 : decode cX6_next 23 = .ok (.bipush 48, 2) := by decide +kernel
theorem dX6_next_25 : decode cX6_next 25 = .ok (.if_icmp .ne 6, 3) := by decide +kernel
theorem dX6_next_28 : decode cX6_next 28 = .ok (.bipush (-3), 2) := by decide +kernel
theorem dX6_next_30 : decode cX6_next 30 = .ok (.ireturn, 1) := by decide +kernel
theorem dX6_next_31 : decode cX6_next 31 = .ok (.aload_n 0, 1) := by decide +kernel
theorem dX6_next_32 : decode cX6_next 32 = .ok (.iload_n 1, 1) := by decide +kernel
theorem dX6_next_33 : decode cX6_next 33 = .ok (.bipush 97, 2) := by decide +kernel
theorem dX6_next_35 : decode cX6_next 35 = .ok (.isub, 1) := by decide +kernel
theorem dX6_next_36 : decode cX6_next 36 = .ok (.invokevirtual 108, 3) := by decide +kernel
theorem dX6_next_39 : decode cX6_next 39 = .ok (.iload_n 2, 1) := by decide +kernel
theorem dX6_next_40 : decode cX6_next 40 = .ok (.ifCond .ne 18, 3) := by decide +kernel
theorem dX6_next_43 : decode cX6_next 43 = .ok (.aload_n 0, 1) := by decide +kernel
theorem dX6_next_44 : decode cX6_next 44 = .ok (.aload_n 0, 1) := by decide +kernel
theorem dX6_next_45 : decode cX6_next 45 = .ok (.getfield 69, 3) := by decide +kernel
theorem dX6_next_48 : decode cX6_next 48 = .ok (.iconst 1, 1) := by decide +kernel
theorem dX6_next_49 : decode cX6_next 49 = .ok (.isub, 1) := by decide +kernel
theorem dX6_next_50 : decode cX6_next 50 = .ok (.bipush 49, 2) := by decide +kernel
theorem dX6_next_52 : decode cX6_next 52 = .ok (.invokevirtual 57, 3) := by decide +kernel
theorem dX6_next_55 : decode cX6_next 55 = .ok (.goto 21, 3) := by decide +kernel
theorem dX6_next_58 : decode cX6_next 58 = .ok (.aload_n 0, 1) := by decide +kernel
theorem dX6_next_59 : decode cX6_next 59 = .ok (.aload_n 0, 1) := by decide +kernel
theorem dX6_next_60 : decode cX6_next 60 = .ok (.getfield 69, 3) := by decide +kernel
theorem dX6_next_63 : decode cX6_next 63 = .ok (.iconst 1, 1) := by decide +kernel
theorem dX6_next_64 : decode cX6_next 64 = .ok (.isub, 1) := by decide +kernel
theorem dX6_next_65 : decode cX6_next 65 = .ok (.invokevirtual 72, 3) := by decide +kernel
theorem dX6_next_68 : decode cX6_next 68 = .ok (.ifCond .eq 7, 3) := by decide +kernel
theorem dX6_next_71 : decode cX6_next 71 = .ok (.iconst 1, 1) := by decide +kernel
theorem dX6_next_72 : decode cX6_next 72 = .ok (.goto 4, 3) := by decide +kernel
theorem dX6_next_75 : decode cX6_next 75 = .ok (.iconst 0, 1) := by decide +kernel
theorem dX6_next_76 : decode cX6_next 76 = .ok (.istore_n 3, 1) := by decide +kernel
theorem dX6_next_77 : decode cX6_next 77 = .ok (.aload_n 0, 1) := by decide +kernel
theorem dX6_next_78 : decode cX6_next 78 = .ok (.dup, 1) := by decide +kernel
theorem dX6_next_79 : decode cX6_next 79 = .ok (.getfield 69, 3) := by decide +kernel
theorem dX6_next_82 : decode cX6_next 82 = .ok (.iconst 1, 1) := by decide +kernel
theorem dX6_next_83 : decode cX6_next 83 = .ok (.isub, 1) := by decide +kernel
theorem dX6_next_84 : decode cX6_next 84 = .ok (.putfield 69, 3) := by decide +kernel
theorem dX6_next_87 : decode cX6_next 87 = .ok (.iload_n 3, 1) := by decide +kernel
theorem dX6_next_88 : decode cX6_next 88 = .ok (.ireturn, 1) := by decide +kernel
theorem dX6_power_0 : decode cX6_power 0 = .ok (.iconst 1, 1) := by decide +kernel
theorem dX6_power_1 : decode cX6_power 1 = .ok (.istore_n 1, 1) := by decide +kernel
theorem dX6_power_2 : decode cX6_power 2 = .ok (.iconst 0, 1) := by decide +kernel
theorem dX6_power_3 : decode cX6_power 3 = .ok (.istore_n 2, 1) := by decide +kernel
theorem dX6_power_4 : decode cX6_power 4 = .ok (.iload_n 2, 1) := by decide +kernel
theorem dX6_power_5 : decode cX6_power 5 = .ok (.iload_n 0, 1) := by decide +kernel
theorem dX6_power_6 : decode cX6_power 6 = .ok (.if_icmp .ge 14, 3) := by decide +kernel
theorem dX6_power_9 : decode cX6_power 9 = .ok (.iload_n 1, 1) := by decide +kernel
theorem dX6_power_10 : decode cX6_power 10 = .ok (.bipush 6, 2) := by decide +kernel
theorem dX6_power_12 : decode cX6_power 12 = .ok (.imul, 1) := by decide +kernel
theorem dX6_power_13 : decode cX6_power 13 = .ok (.istore_n 1, 1) := by decide +kernel
theorem dX6_power_14 : decode cX6_power 14 = .ok (.iinc 2 1, 3) := by decide +kernel
theorem dX6_power_17 : decode cX6_power 17 = .ok (.goto (-13), 3) := by decide +kernel
theorem dX6_power_20 : decode cX6_power 20 = .ok (.iload_n 1, 1) := by decide +kernel
theorem dX6_power_21 : decode cX6_power 21 = .ok (.ireturn, 1) := by decide +kernel
theorem dX6_more_0 : decode cX6_more 0 = .ok (.aload_n 0, 1) := by decide +kernel
theorem dX6_more_1 : decode cX6_more 1 = .ok (.getfield 69, 3) := by decide +kernel
theorem dX6_more_4 : decode cX6_more 4 = .ok (.istore_n 3, 1) := by decide +kernel
theorem dX6_more_5 : decode cX6_more 5 = .ok (.iconst 0, 1) := by decide +kernel
theorem dX6_more_6 : decode cX6_more 6 = .ok (.istore 4, 2) := by decide +kernel
theorem dX6_more_8 : decode cX6_more 8 = .ok (.iconst 0, 1) := by decide +kernel
theorem dX6_more_9 : decode cX6_more 9 = .ok (.istore 5, 2) := by decide +kernel
theorem dX6_more_11 : decode cX6_more 11 = .ok (.iload 5, 2) := by decide +kernel
theorem dX6_more_13 : decode cX6_more 13 = .ok (.iload_n 1, 1) := by decide +kernel
theorem dX6_more_14 : decode cX6_more 14 = .ok (.if_icmp .ge 50, 3) := by decide +kernel
theorem dX6_more_17 : decode cX6_more 17 = .ok (.aload_n 0, 1) := by decide +kernel
theorem dX6_more_18 : decode cX6_more 18 = .ok (.iload_n 2, 1) := by decide +kernel
theorem dX6_more_19 : decode cX6_more 19 = .ok (.iload_n 1, 1) := by decide +kernel
theorem dX6_more_20 : decode cX6_more 20 = .ok (.iconst 1, 1) := by decide +kernel
theorem dX6_more_21 : decode cX6_more 21 = .ok (.isub, 1) := by decide +kernel
theorem dX6_more_22 : decode cX6_more 22 = .ok (.iload 5, 2) := by decide +kernel
theorem dX6_more_24 : decode cX6_more 24 = .ok (.isub, 1) := by decide +kernel
theorem dX6_more_25 : decode cX6_more 25 = .ok (.invokestatic 142, 3) := by decide +kernel
theorem dX6_more_28 : decode cX6_more 28 = .ok (.idiv, 1) := by decide +kernel
theorem dX6_more_29 : decode cX6_more 29 = .ok (.bipush 6, 2) := by decide +kernel
theorem dX6_more_31 : decode cX6_more 31 = .ok (.irem, 1) := by decide +kernel
theorem dX6_more_32 : decode cX6_more 32 = .ok (.invokevirtual 108, 3) := by decide +kernel
theorem dX6_more_35 : decode cX6_more 35 = .ok (.iload 4, 2) := by decide +kernel
theorem dX6_more_37 : decode cX6_more 37 = .ok (.aload_n 0, 1) := by decide +kernel
theorem dX6_more_38 : decode cX6_more 38 = .ok (.aload_n 0, 1) := by decide +kernel
theorem dX6_more_39 : decode cX6_more 39 = .ok (.getfield 69, 3) := by decide +kernel
theorem dX6_more_42 : decode cX6_more 42 = .ok (.iconst 1, 1) := by decide +kernel
theorem dX6_more_43 : decode cX6_more 43 = .ok (.isub, 1) := by decide +kernel
theorem dX6_more_44 : decode cX6_more 44 = .ok (.invokevirtual 72, 3) := by decide +kernel
theorem dX6_more_47 : decode cX6_more 47 = .ok (.ifCond .eq 7, 3) := by decide +kernel
theorem dX6_more_50 : decode cX6_more 50 = .ok (.iconst 1, 1) := by decide +kernel
theorem dX6_more_51 : decode cX6_more 51 = .ok (.goto 4, 3) := by decide +kernel
theorem dX6_more_54 : decode cX6_more 54 = .ok (.iconst 0, 1) := by decide +kernel
theorem dX6_more_55 : decode cX6_more 55 = .ok (.iadd, 1) := by decide +kernel
theorem dX6_more_56 : decode cX6_more 56 = .ok (.istore 4, 2) := by decide +kernel
theorem dX6_more_58 : decode cX6_more 58 = .ok (.iinc 5 1, 3) := by decide +kernel
theorem dX6_more_61 : decode cX6_more 61 = .ok (.goto (-50), 3) := by decide +kernel
theorem dX6_more_64 : decode cX6_more 64 = .ok (.aload_n 0, 1) := by decide +kernel
theorem dX6_more_65 : decode cX6_more 65 = .ok (.iload_n 3, 1) := by decide +kernel
theorem dX6_more_66 : decode cX6_more 66 = .ok (.putfield 69, 3) := by decide +kernel
theorem dX6_more_69 : decode cX6_more 69 = .ok (.iload 4, 2) := by decide +kernel
theorem dX6_more_71 : decode cX6_more 71 = .ok (.ireturn, 1) := by decide +kernel
theorem dX6_grow_0 : decode cX6_grow 0 = .ok (.iload_n 1, 1) := by decide +kernel
theorem dX6_grow_1 : decode cX6_grow 1 = .ok (.i2l, 1) := by decide +kernel
theorem dX6_grow_2 : decode cX6_grow 2 = .ok (.lconst 0, 1) := by decide +kernel
theorem dX6_grow_3 : decode cX6_grow 3 = .ok (.ldc2_w 145, 3) := by decide +kernel
theorem dX6_grow_6 : decode cX6_grow 6 = .ok (.invokestatic 90, 3) := by decide +kernel
theorem dX6_grow_9 : decode cX6_grow 9 = .ok (.ifCond .eq 8, 3) := by decide +kernel
theorem dX6_grow_12 : decode cX6_grow 12 = .ok (.iload_n 2, 1) := by decide +kernel
theorem dX6_grow_13 : decode cX6_grow 13 = .ok (.iconst (-1), 1) := by decide +kernel
theorem dX6_grow_14 : decode cX6_grow 14 = .ok (.if_icmp .ge 5, 3) := by decide +kernel
theorem dX6_grow_17 : decode cX6_grow 17 = .ok (.iconst (-1), 1) := by decide +kernel
theorem dX6_grow_18 : decode cX6_grow 18 = .ok (.ireturn, 1) := by decide +kernel
theorem dX6_grow_19 : decode cX6_grow 19 = .ok (.aload_n 0, 1) := by decide +kernel
theorem dX6_grow_20 : decode cX6_grow 20 = .ok (.getfield 69, 3) := by decide +kernel
theorem dX6_grow_23 : decode cX6_grow 23 = .ok (.iload_n 1, 1) := by decide +kernel
theorem dX6_grow_24 : decode cX6_grow 24 = .ok (.iadd, 1) := by decide +kernel
theorem dX6_grow_25 : decode cX6_grow 25 = .ok (.bipush 48, 2) := by decide +kernel
theorem dX6_grow_27 : decode cX6_grow 27 = .ok (.if_icmp .le 6, 3) := by decide +kernel
theorem dX6_grow_30 : decode cX6_grow 30 = .ok (.bipush (-3), 2) := by decide +kernel
theorem dX6_grow_32 : decode cX6_grow 32 = .ok (.ireturn, 1) := by decide +kernel
theorem dX6_grow_33 : decode cX6_grow 33 = .ok (.iconst (-1), 1) := by decide +kernel
theorem dX6_grow_34 : decode cX6_grow 34 = .ok (.istore_n 3, 1) := by decide +kernel
theorem dX6_grow_35 : decode cX6_grow 35 = .ok (.iconst 0, 1) := by decide +kernel
theorem dX6_grow_36 : decode cX6_grow 36 = .ok (.istore 4, 2) := by decide +kernel
theorem dX6_grow_38 : decode cX6_grow 38 = .ok (.iconst 0, 1) := by decide +kernel
theorem dX6_grow_39 : decode cX6_grow 39 = .ok (.istore 5, 2) := by decide +kernel
theorem dX6_grow_41 : decode cX6_grow 41 = .ok (.iload 5, 2) := by decide +kernel
theorem dX6_grow_43 : decode cX6_grow 43 = .ok (.iload_n 1, 1) := by decide +kernel
theorem dX6_grow_44 : decode cX6_grow 44 = .ok (.invokestatic 142, 3) := by decide +kernel
theorem dX6_grow_47 : decode cX6_grow 47 = .ok (.if_icmp .ge 46, 3) := by decide +kernel
theorem dX6_grow_50 : decode cX6_grow 50 = .ok (.aload_n 0, 1) := by decide +kernel
theorem dX6_grow_51 : decode cX6_grow 51 = .ok (.iload_n 1, 1) := by decide +kernel
theorem dX6_grow_52 : decode cX6_grow 52 = .ok (.iload 5, 2) := by decide +kernel
theorem dX6_grow_54 : decode cX6_grow 54 = .ok (.invokevirtual 147, 3) := by decide +kernel
theorem dX6_grow_57 : decode cX6_grow 57 = .ok (.istore 6, 2) := by decide +kernel
theorem dX6_grow_59 : decode cX6_grow 59 = .ok (.iload 6, 2) := by decide +kernel
theorem dX6_grow_61 : decode cX6_grow 61 = .ok (.iload_n 3, 1) := by decide +kernel
theorem dX6_grow_62 : decode cX6_grow 62 = .ok (.if_icmp .le 8, 3) := by decide +kernel
theorem dX6_grow_65 : decode cX6_grow 65 = .ok (.iload 5, 2) := by decide +kernel
theorem dX6_grow_67 : decode cX6_grow 67 = .ok (.goto 5, 3) := by decide +kernel
theorem dX6_grow_70 : decode cX6_grow 70 = .ok (.iload 4, 2) := by decide +kernel
theorem dX6_grow_72 : decode cX6_grow 72 = .ok (.istore 4, 2) := by decide +kernel
theorem dX6_grow_74 : decode cX6_grow 74 = .ok (.iload 6, 2) := by decide +kernel
theorem dX6_grow_76 : decode cX6_grow 76 = .ok (.iload_n 3, 1) := by decide +kernel
theorem dX6_grow_77 : decode cX6_grow 77 = .ok (.if_icmp .le 8, 3) := by decide +kernel
theorem dX6_grow_80 : decode cX6_grow 80 = .ok (.iload 6, 2) := by decide +kernel
theorem dX6_grow_82 : decode cX6_grow 82 = .ok (.goto 4, 3) := by decide +kernel
theorem dX6_grow_85 : decode cX6_grow 85 = .ok (.iload_n 3, 1) := by decide +kernel
theorem dX6_grow_86 : decode cX6_grow 86 = .ok (.istore_n 3, 1) := by decide +kernel
theorem dX6_grow_87 : decode cX6_grow 87 = .ok (.iinc 5 1, 3) := by decide +kernel
theorem dX6_grow_90 : decode cX6_grow 90 = .ok (.goto (-49), 3) := by decide +kernel
theorem dX6_grow_93 : decode cX6_grow 93 = .ok (.aload_n 0, 1) := by decide +kernel
theorem dX6_grow_94 : decode cX6_grow 94 = .ok (.invokevirtual 111, 3) := by decide +kernel
theorem dX6_grow_97 : decode cX6_grow 97 = .ok (.iload_n 2, 1) := by decide +kernel
theorem dX6_grow_98 : decode cX6_grow 98 = .ok (.iconst (-1), 1) := by decide +kernel
theorem dX6_grow_99 : decode cX6_grow 99 = .ok (.if_icmp .ne 12, 3) := by decide +kernel
theorem dX6_grow_102 : decode cX6_grow 102 = .ok (.aload_n 0, 1) := by decide +kernel
theorem dX6_grow_103 : decode cX6_grow 103 = .ok (.getfield 65, 3) := by decide +kernel
theorem dX6_grow_106 : decode cX6_grow 106 = .ok (.iload_n 3, 1) := by decide +kernel
theorem dX6_grow_107 : decode cX6_grow 107 = .ok (.iadd, 1) := by decide +kernel
theorem dX6_grow_108 : decode cX6_grow 108 = .ok (.goto 30, 3) := by decide +kernel
theorem dX6_grow_111 : decode cX6_grow 111 = .ok (.iload_n 2, 1) := by decide +kernel
theorem dX6_grow_112 : decode cX6_grow 112 = .ok (.iload_n 1, 1) := by decide +kernel
theorem dX6_grow_113 : decode cX6_grow 113 = .ok (.if_icmp .ge 23, 3) := by decide +kernel
theorem dX6_grow_116 : decode cX6_grow 116 = .ok (.bipush 97, 2) := by decide +kernel
theorem dX6_grow_118 : decode cX6_grow 118 = .ok (.iload 4, 2) := by decide +kernel
theorem dX6_grow_120 : decode cX6_grow 120 = .ok (.iload_n 1, 1) := by decide +kernel
theorem dX6_grow_121 : decode cX6_grow 121 = .ok (.iconst 1, 1) := by decide +kernel
theorem dX6_grow_122 : decode cX6_grow 122 = .ok (.isub, 1) := by decide +kernel
theorem dX6_grow_123 : decode cX6_grow 123 = .ok (.iload_n 2, 1) := by decide +kernel
theorem dX6_grow_124 : decode cX6_grow 124 = .ok (.isub, 1) := by decide +kernel
theorem dX6_grow_125 : decode cX6_grow 125 = .ok (.invokestatic 142, 3) := by decide +kernel
theorem dX6_grow_128 : decode cX6_grow 128 = .ok (.idiv, 1) := by decide +kernel
theorem dX6_grow_129 : decode cX6_grow 129 = .ok (.bipush 6, 2) := by decide +kernel
theorem dX6_grow_131 : decode cX6_grow 131 = .ok (.irem, 1) := by decide +kernel
theorem dX6_grow_132 : decode cX6_grow 132 = .ok (.iadd, 1) := by decide +kernel
theorem dX6_grow_133 : decode cX6_grow 133 = .ok (.goto 5, 3) := by decide +kernel
theorem dX6_grow_136 : decode cX6_grow 136 = .ok (.bipush (-4), 2) := by decide +kernel
theorem dX6_grow_138 : decode cX6_grow 138 = .ok (.ireturn, 1) := by decide +kernel
theorem dX6_odds_0 : decode cX6_odds 0 = .ok (.iload_n 1, 1) := by decide +kernel
theorem dX6_odds_1 : decode cX6_odds 1 = .ok (.i2l, 1) := by decide +kernel
theorem dX6_odds_2 : decode cX6_odds 2 = .ok (.lconst 0, 1) := by decide +kernel
theorem dX6_odds_3 : decode cX6_odds 3 = .ok (.ldc2_w 150, 3) := by decide +kernel
theorem dX6_odds_6 : decode cX6_odds 6 = .ok (.invokestatic 90, 3) := by decide +kernel
theorem dX6_odds_9 : decode cX6_odds 9 = .ok (.ifCond .eq 25, 3) := by decide +kernel
theorem dX6_odds_12 : decode cX6_odds 12 = .ok (.iload_n 2, 1) := by decide +kernel
theorem dX6_odds_13 : decode cX6_odds 13 = .ok (.i2l, 1) := by decide +kernel
theorem dX6_odds_14 : decode cX6_odds 14 = .ok (.lconst 0, 1) := by decide +kernel
theorem dX6_odds_15 : decode cX6_odds 15 = .ok (.ldc2_w 152, 3) := by decide +kernel
theorem dX6_odds_18 : decode cX6_odds 18 = .ok (.invokestatic 90, 3) := by decide +kernel
theorem dX6_odds_21 : decode cX6_odds 21 = .ok (.ifCond .eq 13, 3) := by decide +kernel
theorem dX6_odds_24 : decode cX6_odds 24 = .ok (.iload_n 3, 1) := by decide +kernel
theorem dX6_odds_25 : decode cX6_odds 25 = .ok (.i2l, 1) := by decide +kernel
theorem dX6_odds_26 : decode cX6_odds 26 = .ok (.lconst 0, 1) := by decide +kernel
theorem dX6_odds_27 : decode cX6_odds 27 = .ok (.lconst 1, 1) := by decide +kernel
theorem dX6_odds_28 : decode cX6_odds 28 = .ok (.invokestatic 90, 3) := by decide +kernel
theorem dX6_odds_31 : decode cX6_odds 31 = .ok (.ifCond .ne 5, 3) := by decide +kernel
theorem dX6_odds_34 : decode cX6_odds 34 = .ok (.iconst (-1), 1) := by decide +kernel
theorem dX6_odds_35 : decode cX6_odds 35 = .ok (.ireturn, 1) := by decide +kernel
theorem dX6_odds_36 : decode cX6_odds 36 = .ok (.aload_n 0, 1) := by decide +kernel
theorem dX6_odds_37 : decode cX6_odds 37 = .ok (.getfield 69, 3) := by decide +kernel
theorem dX6_odds_40 : decode cX6_odds 40 = .ok (.iload_n 1, 1) := by decide +kernel
theorem dX6_odds_41 : decode cX6_odds 41 = .ok (.iadd, 1) := by decide +kernel
theorem dX6_odds_42 : decode cX6_odds 42 = .ok (.bipush 48, 2) := by decide +kernel
theorem dX6_odds_44 : decode cX6_odds 44 = .ok (.if_icmp .le 6, 3) := by decide +kernel
theorem dX6_odds_47 : decode cX6_odds 47 = .ok (.bipush (-3), 2) := by decide +kernel
theorem dX6_odds_49 : decode cX6_odds 49 = .ok (.ireturn, 1) := by decide +kernel
theorem dX6_odds_50 : decode cX6_odds 50 = .ok (.iconst 0, 1) := by decide +kernel
theorem dX6_odds_51 : decode cX6_odds 51 = .ok (.istore 4, 2) := by decide +kernel
theorem dX6_odds_53 : decode cX6_odds 53 = .ok (.iload_n 1, 1) := by decide +kernel
theorem dX6_odds_54 : decode cX6_odds 54 = .ok (.invokestatic 142, 3) := by decide +kernel
theorem dX6_odds_57 : decode cX6_odds 57 = .ok (.istore 5, 2) := by decide +kernel
theorem dX6_odds_59 : decode cX6_odds 59 = .ok (.iconst 0, 1) := by decide +kernel
theorem dX6_odds_60 : decode cX6_odds 60 = .ok (.istore 6, 2) := by decide +kernel
theorem dX6_odds_62 : decode cX6_odds 62 = .ok (.iload 6, 2) := by decide +kernel
theorem dX6_odds_64 : decode cX6_odds 64 = .ok (.iload 5, 2) := by decide +kernel
theorem dX6_odds_66 : decode cX6_odds 66 = .ok (.if_icmp .ge 30, 3) := by decide +kernel
theorem dX6_odds_69 : decode cX6_odds 69 = .ok (.iload 4, 2) := by decide +kernel
theorem dX6_odds_71 : decode cX6_odds 71 = .ok (.aload_n 0, 1) := by decide +kernel
theorem dX6_odds_72 : decode cX6_odds 72 = .ok (.iload_n 1, 1) := by decide +kernel
theorem dX6_odds_73 : decode cX6_odds 73 = .ok (.iload 6, 2) := by decide +kernel
theorem dX6_odds_75 : decode cX6_odds 75 = .ok (.invokevirtual 147, 3) := by decide +kernel
theorem dX6_odds_78 : decode cX6_odds 78 = .ok (.iload_n 2, 1) := by decide +kernel
theorem dX6_odds_79 : decode cX6_odds 79 = .ok (.if_icmp .lt 7, 3) := by decide +kernel
theorem dX6_odds_82 : decode cX6_odds 82 = .ok (.iconst 1, 1) := by decide +kernel
theorem dX6_odds_83 : decode cX6_odds 83 = .ok (.goto 4, 3) := by decide +kernel
theorem dX6_odds_86 : decode cX6_odds 86 = .ok (.iconst 0, 1) := by decide +kernel
theorem dX6_odds_87 : decode cX6_odds 87 = .ok (.iadd, 1) := by decide +kernel
theorem dX6_odds_88 : decode cX6_odds 88 = .ok (.istore 4, 2) := by decide +kernel
theorem dX6_odds_90 : decode cX6_odds 90 = .ok (.iinc 6 1, 3) := by decide +kernel
theorem dX6_odds_93 : decode cX6_odds 93 = .ok (.goto (-31), 3) := by decide +kernel
theorem dX6_odds_96 : decode cX6_odds 96 = .ok (.iload 4, 2) := by decide +kernel
theorem dX6_odds_98 : decode cX6_odds 98 = .ok (.istore 6, 2) := by decide +kernel
theorem dX6_odds_100 : decode cX6_odds 100 = .ok (.iload 5, 2) := by decide +kernel
theorem dX6_odds_102 : decode cX6_odds 102 = .ok (.istore 7, 2) := by decide +kernel
theorem dX6_odds_104 : decode cX6_odds 104 = .ok (.iload 7, 2) := by decide +kernel
theorem dX6_odds_106 : decode cX6_odds 106 = .ok (.ifCond .le 21, 3) := by decide +kernel
theorem dX6_odds_109 : decode cX6_odds 109 = .ok (.iload 6, 2) := by decide +kernel
theorem dX6_odds_111 : decode cX6_odds 111 = .ok (.iload 7, 2) := by decide +kernel
theorem dX6_odds_113 : decode cX6_odds 113 = .ok (.irem, 1) := by decide +kernel
theorem dX6_odds_114 : decode cX6_odds 114 = .ok (.istore 8, 2) := by decide +kernel
theorem dX6_odds_116 : decode cX6_odds 116 = .ok (.iload 7, 2) := by decide +kernel
theorem dX6_odds_118 : decode cX6_odds 118 = .ok (.istore 6, 2) := by decide +kernel
theorem dX6_odds_120 : decode cX6_odds 120 = .ok (.iload 8, 2) := by decide +kernel
theorem dX6_odds_122 : decode cX6_odds 122 = .ok (.istore 7, 2) := by decide +kernel
theorem dX6_odds_124 : decode cX6_odds 124 = .ok (.goto (-20), 3) := by decide +kernel
theorem dX6_odds_127 : decode cX6_odds 127 = .ok (.iload_n 3, 1) := by decide +kernel
theorem dX6_odds_128 : decode cX6_odds 128 = .ok (.ifCond .ne 11, 3) := by decide +kernel
theorem dX6_odds_131 : decode cX6_odds 131 = .ok (.iload 4, 2) := by decide +kernel
theorem dX6_odds_133 : decode cX6_odds 133 = .ok (.iload 6, 2) := by decide +kernel
theorem dX6_odds_135 : decode cX6_odds 135 = .ok (.idiv, 1) := by decide +kernel
theorem dX6_odds_136 : decode cX6_odds 136 = .ok (.goto 8, 3) := by decide +kernel
theorem dX6_odds_139 : decode cX6_odds 139 = .ok (.iload 5, 2) := by decide +kernel
theorem dX6_odds_141 : decode cX6_odds 141 = .ok (.iload 6, 2) := by decide +kernel
theorem dX6_odds_143 : decode cX6_odds 143 = .ok (.idiv, 1) := by decide +kernel
theorem dX6_odds_144 : decode cX6_odds 144 = .ok (.ireturn, 1) := by decide +kernel
theorem dX6_walks_0 : decode cX6_walks 0 = .ok (.iload_n 1, 1) := by decide +kernel
theorem dX6_walks_1 : decode cX6_walks 1 = .ok (.i2l, 1) := by decide +kernel
theorem dX6_walks_2 : decode cX6_walks 2 = .ok (.lconst 0, 1) := by decide +kernel
theorem dX6_walks_3 : decode cX6_walks 3 = .ok (.ldc2_w 154, 3) := by decide +kernel
theorem dX6_walks_6 : decode cX6_walks 6 = .ok (.invokestatic 90, 3) := by decide +kernel
theorem dX6_walks_9 : decode cX6_walks 9 = .ok (.ifCond .eq 25, 3) := by decide +kernel
theorem dX6_walks_12 : decode cX6_walks 12 = .ok (.iload_n 2, 1) := by decide +kernel
theorem dX6_walks_13 : decode cX6_walks 13 = .ok (.i2l, 1) := by decide +kernel
theorem dX6_walks_14 : decode cX6_walks 14 = .ok (.lconst 1, 1) := by decide +kernel
theorem dX6_walks_15 : decode cX6_walks 15 = .ok (.ldc2_w 156, 3) := by decide +kernel
theorem dX6_walks_18 : decode cX6_walks 18 = .ok (.invokestatic 90, 3) := by decide +kernel
theorem dX6_walks_21 : decode cX6_walks 21 = .ok (.ifCond .eq 13, 3) := by decide +kernel
theorem dX6_walks_24 : decode cX6_walks 24 = .ok (.iload_n 3, 1) := by decide +kernel
theorem dX6_walks_25 : decode cX6_walks 25 = .ok (.i2l, 1) := by decide +kernel
theorem dX6_walks_26 : decode cX6_walks 26 = .ok (.lconst 0, 1) := by decide +kernel
theorem dX6_walks_27 : decode cX6_walks 27 = .ok (.lconst 1, 1) := by decide +kernel
theorem dX6_walks_28 : decode cX6_walks 28 = .ok (.invokestatic 90, 3) := by decide +kernel
theorem dX6_walks_31 : decode cX6_walks 31 = .ok (.ifCond .ne 5, 3) := by decide +kernel
theorem dX6_walks_34 : decode cX6_walks 34 = .ok (.iconst (-1), 1) := by decide +kernel
theorem dX6_walks_35 : decode cX6_walks 35 = .ok (.ireturn, 1) := by decide +kernel
theorem dX6_walks_36 : decode cX6_walks 36 = .ok (.aload_n 0, 1) := by decide +kernel
theorem dX6_walks_37 : decode cX6_walks 37 = .ok (.getfield 69, 3) := by decide +kernel
theorem dX6_walks_40 : decode cX6_walks 40 = .ok (.istore 4, 2) := by decide +kernel
theorem dX6_walks_42 : decode cX6_walks 42 = .ok (.aload_n 0, 1) := by decide +kernel
theorem dX6_walks_43 : decode cX6_walks 43 = .ok (.getfield 7, 3) := by decide +kernel
theorem dX6_walks_46 : decode cX6_walks 46 = .ok (.iconst 0, 1) := by decide +kernel
theorem dX6_walks_47 : decode cX6_walks 47 = .ok (.aload_n 0, 1) := by decide +kernel
theorem dX6_walks_48 : decode cX6_walks 48 = .ok (.getfield 50, 3) := by decide +kernel
theorem dX6_walks_51 : decode cX6_walks 51 = .ok (.iconst 0, 1) := by decide +kernel
theorem dX6_walks_52 : decode cX6_walks 52 = .ok (.iload 4, 2) := by decide +kernel
theorem dX6_walks_54 : decode cX6_walks 54 = .ok (.invokestatic 97, 3) := by decide +kernel
theorem dX6_walks_57 : decode cX6_walks 57 = .ok (.iload_n 2, 1) := by decide +kernel
theorem dX6_walks_58 : decode cX6_walks 58 = .ok (.i2l, 1) := by decide +kernel
theorem dX6_walks_59 : decode cX6_walks 59 = .ok (.lstore 5, 2) := by decide +kernel
theorem dX6_walks_61 : decode cX6_walks 61 = .ok (.iconst 0, 1) := by decide +kernel
theorem dX6_walks_62 : decode cX6_walks 62 = .ok (.istore 7, 2) := by decide +kernel
theorem dX6_walks_64 : decode cX6_walks 64 = .ok (.iload 7, 2) := by decide +kernel
theorem dX6_walks_66 : decode cX6_walks 66 = .ok (.iload_n 1, 1) := by decide +kernel
theorem dX6_walks_67 : decode cX6_walks 67 = .ok (.if_icmp .ge 76, 3) := by decide +kernel
theorem dX6_walks_70 : decode cX6_walks 70 = .ok (.ldc2_w 158, 3) := by decide +kernel
theorem dX6_walks_73 : decode cX6_walks 73 = .ok (.lload 5, 2) := by decide +kernel
theorem dX6_walks_75 : decode cX6_walks 75 = .ok (.lmul, 1) := by decide +kernel
theorem dX6_walks_76 : decode cX6_walks 76 = .ok (.ldc2_w 160, 3) := by decide +kernel
theorem dX6_walks_79 : decode cX6_walks 79 = .ok (.lrem, 1) := by decide +kernel
theorem dX6_walks_80 : decode cX6_walks 80 = .ok (.lstore 5, 2) := by decide +kernel
theorem dX6_walks_82 : decode cX6_walks 82 = .ok (.lload 5, 2) := by decide +kernel
theorem dX6_walks_84 : decode cX6_walks 84 = .ok (.ldc2_w 162, 3) := by decide +kernel
theorem dX6_walks_87 : decode cX6_walks 87 = .ok (.ldiv, 1) := by decide +kernel
theorem dX6_walks_88 : decode cX6_walks 88 = .ok (.ldc2_w 150, 3) := by decide +kernel
theorem dX6_walks_91 : decode cX6_walks 91 = .ok (.lrem, 1) := by decide +kernel
theorem dX6_walks_92 : decode cX6_walks 92 = .ok (.lconst 0, 1) := by decide +kernel
theorem dX6_walks_93 : decode cX6_walks 93 = .ok (.lcmp, 1) := by decide +kernel
theorem dX6_walks_94 : decode cX6_walks 94 = .ok (.ifCond .ne 10, 3) := by decide +kernel
theorem dX6_walks_97 : decode cX6_walks 97 = .ok (.aload_n 0, 1) := by decide +kernel
theorem dX6_walks_98 : decode cX6_walks 98 = .ok (.getfield 69, 3) := by decide +kernel
theorem dX6_walks_101 : decode cX6_walks 101 = .ok (.ifCond .gt 12, 3) := by decide +kernel
theorem dX6_walks_104 : decode cX6_walks 104 = .ok (.aload_n 0, 1) := by decide +kernel
theorem dX6_walks_105 : decode cX6_walks 105 = .ok (.getfield 69, 3) := by decide +kernel
theorem dX6_walks_108 : decode cX6_walks 108 = .ok (.bipush 48, 2) := by decide +kernel
theorem dX6_walks_110 : decode cX6_walks 110 = .ok (.if_icmp .ne 16, 3) := by decide +kernel
theorem dX6_walks_113 : decode cX6_walks 113 = .ok (.aload_n 0, 1) := by decide +kernel
theorem dX6_walks_114 : decode cX6_walks 114 = .ok (.dup, 1) := by decide +kernel
theorem dX6_walks_115 : decode cX6_walks 115 = .ok (.getfield 69, 3) := by decide +kernel
theorem dX6_walks_118 : decode cX6_walks 118 = .ok (.iconst 1, 1) := by decide +kernel
theorem dX6_walks_119 : decode cX6_walks 119 = .ok (.isub, 1) := by decide +kernel
theorem dX6_walks_120 : decode cX6_walks 120 = .ok (.putfield 69, 3) := by decide +kernel
theorem dX6_walks_123 : decode cX6_walks 123 = .ok (.goto 14, 3) := by decide +kernel
theorem dX6_walks_126 : decode cX6_walks 126 = .ok (.aload_n 0, 1) := by decide +kernel
theorem dX6_walks_127 : decode cX6_walks 127 = .ok (.lload 5, 2) := by decide +kernel
theorem dX6_walks_129 : decode cX6_walks 129 = .ok (.ldc2_w 164, 3) := by decide +kernel
theorem dX6_walks_132 : decode cX6_walks 132 = .ok (.lrem, 1) := by decide +kernel
theorem dX6_walks_133 : decode cX6_walks 133 = .ok (.l2i, 1) := by decide +kernel
theorem dX6_walks_134 : decode cX6_walks 134 = .ok (.invokevirtual 108, 3) := by decide +kernel
theorem dX6_walks_137 : decode cX6_walks 137 = .ok (.iinc 7 1, 3) := by decide +kernel
theorem dX6_walks_140 : decode cX6_walks 140 = .ok (.goto (-76), 3) := by decide +kernel
theorem dX6_walks_143 : decode cX6_walks 143 = .ok (.aload_n 0, 1) := by decide +kernel
theorem dX6_walks_144 : decode cX6_walks 144 = .ok (.invokevirtual 111, 3) := by decide +kernel
theorem dX6_walks_147 : decode cX6_walks 147 = .ok (.iload_n 3, 1) := by decide +kernel
theorem dX6_walks_148 : decode cX6_walks 148 = .ok (.ifCond .ne 10, 3) := by decide +kernel
theorem dX6_walks_151 : decode cX6_walks 151 = .ok (.aload_n 0, 1) := by decide +kernel
theorem dX6_walks_152 : decode cX6_walks 152 = .ok (.getfield 65, 3) := by decide +kernel
theorem dX6_walks_155 : decode cX6_walks 155 = .ok (.goto 7, 3) := by decide +kernel
theorem dX6_walks_158 : decode cX6_walks 158 = .ok (.aload_n 0, 1) := by decide +kernel
theorem dX6_walks_159 : decode cX6_walks 159 = .ok (.getfield 69, 3) := by decide +kernel
theorem dX6_walks_162 : decode cX6_walks 162 = .ok (.istore 7, 2) := by decide +kernel
theorem dX6_walks_164 : decode cX6_walks 164 = .ok (.aload_n 0, 1) := by decide +kernel
theorem dX6_walks_165 : decode cX6_walks 165 = .ok (.iload 4, 2) := by decide +kernel
theorem dX6_walks_167 : decode cX6_walks 167 = .ok (.putfield 69, 3) := by decide +kernel
theorem dX6_walks_170 : decode cX6_walks 170 = .ok (.aload_n 0, 1) := by decide +kernel
theorem dX6_walks_171 : decode cX6_walks 171 = .ok (.getfield 50, 3) := by decide +kernel
theorem dX6_walks_174 : decode cX6_walks 174 = .ok (.iconst 0, 1) := by decide +kernel
theorem dX6_walks_175 : decode cX6_walks 175 = .ok (.aload_n 0, 1) := by decide +kernel
theorem dX6_walks_176 : decode cX6_walks 176 = .ok (.getfield 7, 3) := by decide +kernel
theorem dX6_walks_179 : decode cX6_walks 179 = .ok (.iconst 0, 1) := by decide +kernel
theorem dX6_walks_180 : decode cX6_walks 180 = .ok (.iload 4, 2) := by decide +kernel
theorem dX6_walks_182 : decode cX6_walks 182 = .ok (.invokestatic 97, 3) := by decide +kernel
theorem dX6_walks_185 : decode cX6_walks 185 = .ok (.iload 7, 2) := by decide +kernel
theorem dX6_walks_187 : decode cX6_walks 187 = .ok (.ireturn, 1) := by decide +kernel
theorem dX6_feed_0 : decode cX6_feed 0 = .ok (.iload_n 1, 1) := by decide +kernel
theorem dX6_feed_1 : decode cX6_feed 1 = .ok (.i2l, 1) := by decide +kernel
theorem dX6_feed_2 : decode cX6_feed 2 = .ok (.lconst 0, 1) := by decide +kernel
theorem dX6_feed_3 : decode cX6_feed 3 = .ok (.ldc2_w 166, 3) := by decide +kernel
theorem dX6_feed_6 : decode cX6_feed 6 = .ok (.invokestatic 90, 3) := by decide +kernel
theorem dX6_feed_9 : decode cX6_feed 9 = .ok (.ifCond .ne 5, 3) := by decide +kernel
theorem dX6_feed_12 : decode cX6_feed 12 = .ok (.iconst (-1), 1) := by decide +kernel
theorem dX6_feed_13 : decode cX6_feed 13 = .ok (.ireturn, 1) := by decide +kernel
theorem dX6_feed_14 : decode cX6_feed 14 = .ok (.aload_n 0, 1) := by decide +kernel
theorem dX6_feed_15 : decode cX6_feed 15 = .ok (.getfield 168, 3) := by decide +kernel
theorem dX6_feed_18 : decode cX6_feed 18 = .ok (.bipush 48, 2) := by decide +kernel
theorem dX6_feed_20 : decode cX6_feed 20 = .ok (.if_icmp .ne 6, 3) := by decide +kernel
theorem dX6_feed_23 : decode cX6_feed 23 = .ok (.bipush (-3), 2) := by decide +kernel
theorem dX6_feed_25 : decode cX6_feed 25 = .ok (.ireturn, 1) := by decide +kernel
theorem dX6_feed_26 : decode cX6_feed 26 = .ok (.aload_n 0, 1) := by decide +kernel
theorem dX6_feed_27 : decode cX6_feed 27 = .ok (.getfield 22, 3) := by decide +kernel
theorem dX6_feed_30 : decode cX6_feed 30 = .ok (.aload_n 0, 1) := by decide +kernel
theorem dX6_feed_31 : decode cX6_feed 31 = .ok (.getfield 168, 3) := by decide +kernel
theorem dX6_feed_34 : decode cX6_feed 34 = .ok (.iload_n 1, 1) := by decide +kernel
theorem dX6_feed_35 : decode cX6_feed 35 = .ok (.iastore, 1) := by decide +kernel
theorem dX6_feed_36 : decode cX6_feed 36 = .ok (.aload_n 0, 1) := by decide +kernel
theorem dX6_feed_37 : decode cX6_feed 37 = .ok (.dup, 1) := by decide +kernel
theorem dX6_feed_38 : decode cX6_feed 38 = .ok (.getfield 168, 3) := by decide +kernel
theorem dX6_feed_41 : decode cX6_feed 41 = .ok (.iconst 1, 1) := by decide +kernel
theorem dX6_feed_42 : decode cX6_feed 42 = .ok (.iadd, 1) := by decide +kernel
theorem dX6_feed_43 : decode cX6_feed 43 = .ok (.putfield 168, 3) := by decide +kernel
theorem dX6_feed_46 : decode cX6_feed 46 = .ok (.aload_n 0, 1) := by decide +kernel
theorem dX6_feed_47 : decode cX6_feed 47 = .ok (.getfield 168, 3) := by decide +kernel
theorem dX6_feed_50 : decode cX6_feed 50 = .ok (.ireturn, 1) := by decide +kernel
theorem dX6_clear_0 : decode cX6_clear 0 = .ok (.aload_n 0, 1) := by decide +kernel
theorem dX6_clear_1 : decode cX6_clear 1 = .ok (.getfield 168, 3) := by decide +kernel
theorem dX6_clear_4 : decode cX6_clear 4 = .ok (.istore_n 1, 1) := by decide +kernel
theorem dX6_clear_5 : decode cX6_clear 5 = .ok (.aload_n 0, 1) := by decide +kernel
theorem dX6_clear_6 : decode cX6_clear 6 = .ok (.iconst 0, 1) := by decide +kernel
end
section
theorem dX6_clear_7 : decode cX6_clear 7 = .ok (.putfield 168, 3) := by decide +kernel
theorem dX6_clear_10 : decode cX6_clear 10 = .ok (.iload_n 1, 1) := by decide +kernel
theorem dX6_clear_11 : decode cX6_clear 11 = .ok (.ireturn, 1) := by decide +kernel
theorem dX6_isTaped_0 : decode cX6_isTaped 0 = .ok (.aload_n 0, 1) := by decide +kernel
theorem dX6_isTaped_1 : decode cX6_isTaped 1 = .ok (.getfield 168, 3) := by decide +kernel
theorem dX6_isTaped_4 : decode cX6_isTaped 4 = .ok (.ifCond .le 20, 3) := by decide +kernel
theorem dX6_isTaped_7 : decode cX6_isTaped 7 = .ok (.iload_n 1, 1) := by decide +kernel
theorem dX6_isTaped_8 : decode cX6_isTaped 8 = .ok (.aload_n 0, 1) := by decide +kernel
theorem dX6_isTaped_9 : decode cX6_isTaped 9 = .ok (.getfield 168, 3) := by decide +kernel
theorem dX6_isTaped_12 : decode cX6_isTaped 12 = .ok (.iadd, 1) := by decide +kernel
theorem dX6_isTaped_13 : decode cX6_isTaped 13 = .ok (.aload_n 0, 1) := by decide +kernel
theorem dX6_isTaped_14 : decode cX6_isTaped 14 = .ok (.getfield 69, 3) := by decide +kernel
theorem dX6_isTaped_17 : decode cX6_isTaped 17 = .ok (.if_icmp .gt 7, 3) := by decide +kernel
theorem dX6_isTaped_20 : decode cX6_isTaped 20 = .ok (.iconst 1, 1) := by decide +kernel
theorem dX6_isTaped_21 : decode cX6_isTaped 21 = .ok (.goto 4, 3) := by decide +kernel
theorem dX6_isTaped_24 : decode cX6_isTaped 24 = .ok (.iconst 0, 1) := by decide +kernel
theorem dX6_isTaped_25 : decode cX6_isTaped 25 = .ok (.istore_n 2, 1) := by decide +kernel
theorem dX6_isTaped_26 : decode cX6_isTaped 26 = .ok (.iconst 0, 1) := by decide +kernel
theorem dX6_isTaped_27 : decode cX6_isTaped 27 = .ok (.istore_n 3, 1) := by decide +kernel
theorem dX6_isTaped_28 : decode cX6_isTaped 28 = .ok (.iload_n 3, 1) := by decide +kernel
theorem dX6_isTaped_29 : decode cX6_isTaped 29 = .ok (.aload_n 0, 1) := by decide +kernel
theorem dX6_isTaped_30 : decode cX6_isTaped 30 = .ok (.getfield 168, 3) := by decide +kernel
theorem dX6_isTaped_33 : decode cX6_isTaped 33 = .ok (.if_icmp .ge 39, 3) := by decide +kernel
theorem dX6_isTaped_36 : decode cX6_isTaped 36 = .ok (.iload_n 2, 1) := by decide +kernel
theorem dX6_isTaped_37 : decode cX6_isTaped 37 = .ok (.ifCond .eq 35, 3) := by decide +kernel
theorem dX6_isTaped_40 : decode cX6_isTaped 40 = .ok (.aload_n 0, 1) := by decide +kernel
theorem dX6_isTaped_41 : decode cX6_isTaped 41 = .ok (.getfield 22, 3) := by decide +kernel
theorem dX6_isTaped_44 : decode cX6_isTaped 44 = .ok (.iload_n 3, 1) := by decide +kernel
theorem dX6_isTaped_45 : decode cX6_isTaped 45 = .ok (.iaload, 1) := by decide +kernel
theorem dX6_isTaped_46 : decode cX6_isTaped 46 = .ok (.bipush 97, 2) := by decide +kernel
theorem dX6_isTaped_48 : decode cX6_isTaped 48 = .ok (.aload_n 0, 1) := by decide +kernel
theorem dX6_isTaped_49 : decode cX6_isTaped 49 = .ok (.getfield 7, 3) := by decide +kernel
theorem dX6_isTaped_52 : decode cX6_isTaped 52 = .ok (.iload_n 1, 1) := by decide +kernel
theorem dX6_isTaped_53 : decode cX6_isTaped 53 = .ok (.iload_n 3, 1) := by decide +kernel
theorem dX6_isTaped_54 : decode cX6_isTaped 54 = .ok (.iadd, 1) := by decide +kernel
theorem dX6_isTaped_55 : decode cX6_isTaped 55 = .ok (.iaload, 1) := by decide +kernel
theorem dX6_isTaped_56 : decode cX6_isTaped 56 = .ok (.iadd, 1) := by decide +kernel
theorem dX6_isTaped_57 : decode cX6_isTaped 57 = .ok (.if_icmp .ne 7, 3) := by decide +kernel
theorem dX6_isTaped_60 : decode cX6_isTaped 60 = .ok (.iconst 1, 1) := by decide +kernel
theorem dX6_isTaped_61 : decode cX6_isTaped 61 = .ok (.goto 4, 3) := by decide +kernel
theorem dX6_isTaped_64 : decode cX6_isTaped 64 = .ok (.iconst 0, 1) := by decide +kernel
theorem dX6_isTaped_65 : decode cX6_isTaped 65 = .ok (.istore_n 2, 1) := by decide +kernel
theorem dX6_isTaped_66 : decode cX6_isTaped 66 = .ok (.iinc 3 1, 3) := by decide +kernel
theorem dX6_isTaped_69 : decode cX6_isTaped 69 = .ok (.goto (-41), 3) := by decide +kernel
theorem dX6_isTaped_72 : decode cX6_isTaped 72 = .ok (.iload_n 2, 1) := by decide +kernel
theorem dX6_isTaped_73 : decode cX6_isTaped 73 = .ok (.ireturn, 1) := by decide +kernel
theorem dX6_find_0 : decode cX6_find 0 = .ok (.aload_n 0, 1) := by decide +kernel
theorem dX6_find_1 : decode cX6_find 1 = .ok (.invokevirtual 111, 3) := by decide +kernel
theorem dX6_find_4 : decode cX6_find 4 = .ok (.bipush (-4), 2) := by decide +kernel
theorem dX6_find_6 : decode cX6_find 6 = .ok (.istore_n 1, 1) := by decide +kernel
theorem dX6_find_7 : decode cX6_find 7 = .ok (.iconst 0, 1) := by decide +kernel
theorem dX6_find_8 : decode cX6_find 8 = .ok (.istore_n 2, 1) := by decide +kernel
theorem dX6_find_9 : decode cX6_find 9 = .ok (.iload_n 2, 1) := by decide +kernel
theorem dX6_find_10 : decode cX6_find 10 = .ok (.aload_n 0, 1) := by decide +kernel
theorem dX6_find_11 : decode cX6_find 11 = .ok (.getfield 65, 3) := by decide +kernel
theorem dX6_find_14 : decode cX6_find 14 = .ok (.if_icmp .ge 41, 3) := by decide +kernel
theorem dX6_find_17 : decode cX6_find 17 = .ok (.aload_n 0, 1) := by decide +kernel
theorem dX6_find_18 : decode cX6_find 18 = .ok (.getfield 41, 3) := by decide +kernel
theorem dX6_find_21 : decode cX6_find 21 = .ok (.iload_n 2, 1) := by decide +kernel
theorem dX6_find_22 : decode cX6_find 22 = .ok (.iaload, 1) := by decide +kernel
theorem dX6_find_23 : decode cX6_find 23 = .ok (.aload_n 0, 1) := by decide +kernel
theorem dX6_find_24 : decode cX6_find 24 = .ok (.getfield 168, 3) := by decide +kernel
theorem dX6_find_27 : decode cX6_find 27 = .ok (.if_icmp .ne 20, 3) := by decide +kernel
theorem dX6_find_30 : decode cX6_find 30 = .ok (.aload_n 0, 1) := by decide +kernel
theorem dX6_find_31 : decode cX6_find 31 = .ok (.aload_n 0, 1) := by decide +kernel
theorem dX6_find_32 : decode cX6_find 32 = .ok (.getfield 38, 3) := by decide +kernel
theorem dX6_find_35 : decode cX6_find 35 = .ok (.iload_n 2, 1) := by decide +kernel
theorem dX6_find_36 : decode cX6_find 36 = .ok (.iaload, 1) := by decide +kernel
theorem dX6_find_37 : decode cX6_find 37 = .ok (.invokevirtual 171, 3) := by decide +kernel
theorem dX6_find_40 : decode cX6_find 40 = .ok (.ifCond .eq 7, 3) := by decide +kernel
theorem dX6_find_43 : decode cX6_find 43 = .ok (.iload_n 2, 1) := by decide +kernel
theorem dX6_find_44 : decode cX6_find 44 = .ok (.goto 4, 3) := by decide +kernel
theorem dX6_find_47 : decode cX6_find 47 = .ok (.iload_n 1, 1) := by decide +kernel
theorem dX6_find_48 : decode cX6_find 48 = .ok (.istore_n 1, 1) := by decide +kernel
theorem dX6_find_49 : decode cX6_find 49 = .ok (.iinc 2 1, 3) := by decide +kernel
theorem dX6_find_52 : decode cX6_find 52 = .ok (.goto (-43), 3) := by decide +kernel
theorem dX6_find_55 : decode cX6_find 55 = .ok (.iload_n 1, 1) := by decide +kernel
theorem dX6_find_56 : decode cX6_find 56 = .ok (.ireturn, 1) := by decide +kernel
theorem dX6_times_0 : decode cX6_times 0 = .ok (.iconst 0, 1) := by decide +kernel
theorem dX6_times_1 : decode cX6_times 1 = .ok (.istore_n 1, 1) := by decide +kernel
theorem dX6_times_2 : decode cX6_times 2 = .ok (.iconst 0, 1) := by decide +kernel
theorem dX6_times_3 : decode cX6_times 3 = .ok (.istore_n 2, 1) := by decide +kernel
theorem dX6_times_4 : decode cX6_times 4 = .ok (.iload_n 2, 1) := by decide +kernel
theorem dX6_times_5 : decode cX6_times 5 = .ok (.aload_n 0, 1) := by decide +kernel
theorem dX6_times_6 : decode cX6_times 6 = .ok (.getfield 69, 3) := by decide +kernel
theorem dX6_times_9 : decode cX6_times 9 = .ok (.if_icmp .ge 25, 3) := by decide +kernel
theorem dX6_times_12 : decode cX6_times 12 = .ok (.iload_n 1, 1) := by decide +kernel
theorem dX6_times_13 : decode cX6_times 13 = .ok (.aload_n 0, 1) := by decide +kernel
theorem dX6_times_14 : decode cX6_times 14 = .ok (.iload_n 2, 1) := by decide +kernel
theorem dX6_times_15 : decode cX6_times 15 = .ok (.invokevirtual 171, 3) := by decide +kernel
theorem dX6_times_18 : decode cX6_times 18 = .ok (.ifCond .eq 7, 3) := by decide +kernel
theorem dX6_times_21 : decode cX6_times 21 = .ok (.iconst 1, 1) := by decide +kernel
theorem dX6_times_22 : decode cX6_times 22 = .ok (.goto 4, 3) := by decide +kernel
theorem dX6_times_25 : decode cX6_times 25 = .ok (.iconst 0, 1) := by decide +kernel
theorem dX6_times_26 : decode cX6_times 26 = .ok (.iadd, 1) := by decide +kernel
theorem dX6_times_27 : decode cX6_times 27 = .ok (.istore_n 1, 1) := by decide +kernel
theorem dX6_times_28 : decode cX6_times 28 = .ok (.iinc 2 1, 3) := by decide +kernel
theorem dX6_times_31 : decode cX6_times 31 = .ok (.goto (-27), 3) := by decide +kernel
theorem dX6_times_34 : decode cX6_times 34 = .ok (.iload_n 1, 1) := by decide +kernel
theorem dX6_times_35 : decode cX6_times 35 = .ok (.ireturn, 1) := by decide +kernel
theorem dX6_isSheet_0 : decode cX6_isSheet 0 = .ok (.iload_n 0, 1) := by decide +kernel
theorem dX6_isSheet_1 : decode cX6_isSheet 1 = .ok (.i2l, 1) := by decide +kernel
theorem dX6_isSheet_2 : decode cX6_isSheet 2 = .ok (.lconst 0, 1) := by decide +kernel
theorem dX6_isSheet_3 : decode cX6_isSheet 3 = .ok (.ldc2_w 145, 3) := by decide +kernel
theorem dX6_isSheet_6 : decode cX6_isSheet 6 = .ok (.invokestatic 90, 3) := by decide +kernel
theorem dX6_isSheet_9 : decode cX6_isSheet 9 = .ok (.ireturn, 1) := by decide +kernel
theorem dX6_sheet_0 : decode cX6_sheet 0 = .ok (.iload_n 1, 1) := by decide +kernel
theorem dX6_sheet_1 : decode cX6_sheet 1 = .ok (.invokestatic 174, 3) := by decide +kernel
theorem dX6_sheet_4 : decode cX6_sheet 4 = .ok (.ifCond .eq 21, 3) := by decide +kernel
theorem dX6_sheet_7 : decode cX6_sheet 7 = .ok (.iload_n 2, 1) := by decide +kernel
theorem dX6_sheet_8 : decode cX6_sheet 8 = .ok (.i2l, 1) := by decide +kernel
theorem dX6_sheet_9 : decode cX6_sheet 9 = .ok (.lconst 0, 1) := by decide +kernel
theorem dX6_sheet_10 : decode cX6_sheet 10 = .ok (.ldc2_w 145, 3) := by decide +kernel
theorem dX6_sheet_13 : decode cX6_sheet 13 = .ok (.invokestatic 90, 3) := by decide +kernel
theorem dX6_sheet_16 : decode cX6_sheet 16 = .ok (.ifCond .eq 9, 3) := by decide +kernel
theorem dX6_sheet_19 : decode cX6_sheet 19 = .ok (.iload_n 3, 1) := by decide +kernel
theorem dX6_sheet_20 : decode cX6_sheet 20 = .ok (.bipush 48, 2) := by decide +kernel
theorem dX6_sheet_22 : decode cX6_sheet 22 = .ok (.if_icmp .le 5, 3) := by decide +kernel
theorem dX6_sheet_25 : decode cX6_sheet 25 = .ok (.iconst (-1), 1) := by decide +kernel
theorem dX6_sheet_26 : decode cX6_sheet 26 = .ok (.ireturn, 1) := by decide +kernel
theorem dX6_sheet_27 : decode cX6_sheet 27 = .ok (.iload_n 3, 1) := by decide +kernel
theorem dX6_sheet_28 : decode cX6_sheet 28 = .ok (.ifCond .ge 6, 3) := by decide +kernel
theorem dX6_sheet_31 : decode cX6_sheet 31 = .ok (.bipush (-14), 2) := by decide +kernel
theorem dX6_sheet_33 : decode cX6_sheet 33 = .ok (.ireturn, 1) := by decide +kernel
theorem dX6_sheet_34 : decode cX6_sheet 34 = .ok (.aload_n 0, 1) := by decide +kernel
theorem dX6_sheet_35 : decode cX6_sheet 35 = .ok (.getfield 25, 3) := by decide +kernel
theorem dX6_sheet_38 : decode cX6_sheet 38 = .ok (.iload_n 1, 1) := by decide +kernel
theorem dX6_sheet_39 : decode cX6_sheet 39 = .ok (.iload_n 2, 1) := by decide +kernel
theorem dX6_sheet_40 : decode cX6_sheet 40 = .ok (.iastore, 1) := by decide +kernel
theorem dX6_sheet_41 : decode cX6_sheet 41 = .ok (.aload_n 0, 1) := by decide +kernel
theorem dX6_sheet_42 : decode cX6_sheet 42 = .ok (.getfield 28, 3) := by decide +kernel
theorem dX6_sheet_45 : decode cX6_sheet 45 = .ok (.iload_n 1, 1) := by decide +kernel
theorem dX6_sheet_46 : decode cX6_sheet 46 = .ok (.iload_n 3, 1) := by decide +kernel
theorem dX6_sheet_47 : decode cX6_sheet 47 = .ok (.iastore, 1) := by decide +kernel
theorem dX6_sheet_48 : decode cX6_sheet 48 = .ok (.iconst 0, 1) := by decide +kernel
theorem dX6_sheet_49 : decode cX6_sheet 49 = .ok (.istore 4, 2) := by decide +kernel
theorem dX6_sheet_51 : decode cX6_sheet 51 = .ok (.iload 4, 2) := by decide +kernel
theorem dX6_sheet_53 : decode cX6_sheet 53 = .ok (.bipush 48, 2) := by decide +kernel
theorem dX6_sheet_55 : decode cX6_sheet 55 = .ok (.if_icmp .ge 22, 3) := by decide +kernel
theorem dX6_sheet_58 : decode cX6_sheet 58 = .ok (.aload_n 0, 1) := by decide +kernel
theorem dX6_sheet_59 : decode cX6_sheet 59 = .ok (.getfield 31, 3) := by decide +kernel
theorem dX6_sheet_62 : decode cX6_sheet 62 = .ok (.bipush 48, 2) := by decide +kernel
theorem dX6_sheet_64 : decode cX6_sheet 64 = .ok (.iload_n 1, 1) := by decide +kernel
theorem dX6_sheet_65 : decode cX6_sheet 65 = .ok (.imul, 1) := by decide +kernel
theorem dX6_sheet_66 : decode cX6_sheet 66 = .ok (.iload 4, 2) := by decide +kernel
theorem dX6_sheet_68 : decode cX6_sheet 68 = .ok (.iadd, 1) := by decide +kernel
theorem dX6_sheet_69 : decode cX6_sheet 69 = .ok (.lconst 0, 1) := by decide +kernel
theorem dX6_sheet_70 : decode cX6_sheet 70 = .ok (.lastore, 1) := by decide +kernel
theorem dX6_sheet_71 : decode cX6_sheet 71 = .ok (.iinc 4 1, 3) := by decide +kernel
theorem dX6_sheet_74 : decode cX6_sheet 74 = .ok (.goto (-23), 3) := by decide +kernel
theorem dX6_sheet_77 : decode cX6_sheet 77 = .ok (.iload_n 3, 1) := by decide +kernel
theorem dX6_sheet_78 : decode cX6_sheet 78 = .ok (.ireturn, 1) := by decide +kernel
theorem dX6_drop_0 : decode cX6_drop 0 = .ok (.iload_n 1, 1) := by decide +kernel
theorem dX6_drop_1 : decode cX6_drop 1 = .ok (.invokestatic 174, 3) := by decide +kernel
theorem dX6_drop_4 : decode cX6_drop 4 = .ok (.ifCond .ne 5, 3) := by decide +kernel
theorem dX6_drop_7 : decode cX6_drop 7 = .ok (.iconst (-1), 1) := by decide +kernel
theorem dX6_drop_8 : decode cX6_drop 8 = .ok (.ireturn, 1) := by decide +kernel
theorem dX6_drop_9 : decode cX6_drop 9 = .ok (.aload_n 0, 1) := by decide +kernel
theorem dX6_drop_10 : decode cX6_drop 10 = .ok (.getfield 25, 3) := by decide +kernel
theorem dX6_drop_13 : decode cX6_drop 13 = .ok (.iload_n 1, 1) := by decide +kernel
theorem dX6_drop_14 : decode cX6_drop 14 = .ok (.iaload, 1) := by decide +kernel
theorem dX6_drop_15 : decode cX6_drop 15 = .ok (.ifCond .ge 6, 3) := by decide +kernel
theorem dX6_drop_18 : decode cX6_drop 18 = .ok (.bipush (-11), 2) := by decide +kernel
theorem dX6_drop_20 : decode cX6_drop 20 = .ok (.ireturn, 1) := by decide +kernel
theorem dX6_drop_21 : decode cX6_drop 21 = .ok (.aload_n 0, 1) := by decide +kernel
theorem dX6_drop_22 : decode cX6_drop 22 = .ok (.getfield 25, 3) := by decide +kernel
theorem dX6_drop_25 : decode cX6_drop 25 = .ok (.iload_n 1, 1) := by decide +kernel
theorem dX6_drop_26 : decode cX6_drop 26 = .ok (.iconst (-1), 1) := by decide +kernel
theorem dX6_drop_27 : decode cX6_drop 27 = .ok (.iastore, 1) := by decide +kernel
theorem dX6_drop_28 : decode cX6_drop 28 = .ok (.aload_n 0, 1) := by decide +kernel
theorem dX6_drop_29 : decode cX6_drop 29 = .ok (.getfield 28, 3) := by decide +kernel
theorem dX6_drop_32 : decode cX6_drop 32 = .ok (.iload_n 1, 1) := by decide +kernel
theorem dX6_drop_33 : decode cX6_drop 33 = .ok (.iaload, 1) := by decide +kernel
theorem dX6_drop_34 : decode cX6_drop 34 = .ok (.ireturn, 1) := by decide +kernel
theorem dX6_whyNot_0 : decode cX6_whyNot 0 = .ok (.aload_n 0, 1) := by decide +kernel
theorem dX6_whyNot_1 : decode cX6_whyNot 1 = .ok (.getfield 25, 3) := by decide +kernel
theorem dX6_whyNot_4 : decode cX6_whyNot 4 = .ok (.iload_n 1, 1) := by decide +kernel
theorem dX6_whyNot_5 : decode cX6_whyNot 5 = .ok (.iaload, 1) := by decide +kernel
theorem dX6_whyNot_6 : decode cX6_whyNot 6 = .ok (.ifCond .ge 6, 3) := by decide +kernel
theorem dX6_whyNot_9 : decode cX6_whyNot 9 = .ok (.bipush (-11), 2) := by decide +kernel
theorem dX6_whyNot_11 : decode cX6_whyNot 11 = .ok (.ireturn, 1) := by decide +kernel
theorem dX6_whyNot_12 : decode cX6_whyNot 12 = .ok (.aload_n 0, 1) := by decide +kernel
theorem dX6_whyNot_13 : decode cX6_whyNot 13 = .ok (.getfield 25, 3) := by decide +kernel
theorem dX6_whyNot_16 : decode cX6_whyNot 16 = .ok (.iload_n 1, 1) := by decide +kernel
theorem dX6_whyNot_17 : decode cX6_whyNot 17 = .ok (.iaload, 1) := by decide +kernel
theorem dX6_whyNot_18 : decode cX6_whyNot 18 = .ok (.iload_n 2, 1) := by decide +kernel
theorem dX6_whyNot_19 : decode cX6_whyNot 19 = .ok (.if_icmp .eq 6, 3) := by decide +kernel
theorem dX6_whyNot_22 : decode cX6_whyNot 22 = .ok (.bipush (-12), 2) := by decide +kernel
theorem dX6_whyNot_24 : decode cX6_whyNot 24 = .ok (.ireturn, 1) := by decide +kernel
theorem dX6_whyNot_25 : decode cX6_whyNot 25 = .ok (.iload_n 3, 1) := by decide +kernel
theorem dX6_whyNot_26 : decode cX6_whyNot 26 = .ok (.ifCond .lt 29, 3) := by decide +kernel
theorem dX6_whyNot_29 : decode cX6_whyNot 29 = .ok (.iload 4, 2) := by decide +kernel
theorem dX6_whyNot_31 : decode cX6_whyNot 31 = .ok (.ifCond .lt 24, 3) := by decide +kernel
theorem dX6_whyNot_34 : decode cX6_whyNot 34 = .ok (.iload_n 3, 1) := by decide +kernel
theorem dX6_whyNot_35 : decode cX6_whyNot 35 = .ok (.i2l, 1) := by decide +kernel
theorem dX6_whyNot_36 : decode cX6_whyNot 36 = .ok (.iload 4, 2) := by decide +kernel
theorem dX6_whyNot_38 : decode cX6_whyNot 38 = .ok (.i2l, 1) := by decide +kernel
theorem dX6_whyNot_39 : decode cX6_whyNot 39 = .ok (.ladd, 1) := by decide +kernel
theorem dX6_whyNot_40 : decode cX6_whyNot 40 = .ok (.aload_n 0, 1) := by decide +kernel
theorem dX6_whyNot_41 : decode cX6_whyNot 41 = .ok (.getfield 28, 3) := by decide +kernel
theorem dX6_whyNot_44 : decode cX6_whyNot 44 = .ok (.iload_n 1, 1) := by decide +kernel
theorem dX6_whyNot_45 : decode cX6_whyNot 45 = .ok (.iaload, 1) := by decide +kernel
theorem dX6_whyNot_46 : decode cX6_whyNot 46 = .ok (.i2l, 1) := by decide +kernel
theorem dX6_whyNot_47 : decode cX6_whyNot 47 = .ok (.lcmp, 1) := by decide +kernel
theorem dX6_whyNot_48 : decode cX6_whyNot 48 = .ok (.ifCond .gt 7, 3) := by decide +kernel
theorem dX6_whyNot_51 : decode cX6_whyNot 51 = .ok (.iconst 0, 1) := by decide +kernel
theorem dX6_whyNot_52 : decode cX6_whyNot 52 = .ok (.goto 5, 3) := by decide +kernel
theorem dX6_whyNot_55 : decode cX6_whyNot 55 = .ok (.bipush (-13), 2) := by decide +kernel
theorem dX6_whyNot_57 : decode cX6_whyNot 57 = .ok (.ireturn, 1) := by decide +kernel
theorem dX6_cut_0 : decode cX6_cut 0 = .ok (.iload_n 0, 1) := by decide +kernel
theorem dX6_cut_1 : decode cX6_cut 1 = .ok (.ifCond .ne 11, 3) := by decide +kernel
theorem dX6_cut_4 : decode cX6_cut 4 = .ok (.lload_n 1, 1) := by decide +kernel
theorem dX6_cut_5 : decode cX6_cut 5 = .ok (.ldc2_w 177, 3) := by decide +kernel
theorem dX6_cut_8 : decode cX6_cut 8 = .ok (.land, 1) := by decide +kernel
theorem dX6_cut_9 : decode cX6_cut 9 = .ok (.goto 27, 3) := by decide +kernel
theorem dX6_cut_12 : decode cX6_cut 12 = .ok (.iload_n 0, 1) := by decide +kernel
theorem dX6_cut_13 : decode cX6_cut 13 = .ok (.iconst 1, 1) := by decide +kernel
theorem dX6_cut_14 : decode cX6_cut 14 = .ok (.if_icmp .ne 10, 3) := by decide +kernel
theorem dX6_cut_17 : decode cX6_cut 17 = .ok (.lload_n 1, 1) := by decide +kernel
theorem dX6_cut_18 : decode cX6_cut 18 = .ok (.l2i, 1) := by decide +kernel
theorem dX6_cut_19 : decode cX6_cut 19 = .ok (.i2s, 1) := by decide +kernel
theorem dX6_cut_20 : decode cX6_cut 20 = .ok (.i2l, 1) := by decide +kernel
theorem dX6_cut_21 : decode cX6_cut 21 = .ok (.goto 15, 3) := by decide +kernel
theorem dX6_cut_24 : decode cX6_cut 24 = .ok (.iload_n 0, 1) := by decide +kernel
theorem dX6_cut_25 : decode cX6_cut 25 = .ok (.iconst 2, 1) := by decide +kernel
theorem dX6_cut_26 : decode cX6_cut 26 = .ok (.if_icmp .ne 9, 3) := by decide +kernel
theorem dX6_cut_29 : decode cX6_cut 29 = .ok (.lload_n 1, 1) := by decide +kernel
theorem dX6_cut_30 : decode cX6_cut 30 = .ok (.l2i, 1) := by decide +kernel
theorem dX6_cut_31 : decode cX6_cut 31 = .ok (.i2l, 1) := by decide +kernel
theorem dX6_cut_32 : decode cX6_cut 32 = .ok (.goto 4, 3) := by decide +kernel
theorem dX6_cut_35 : decode cX6_cut 35 = .ok (.lload_n 1, 1) := by decide +kernel
theorem dX6_cut_36 : decode cX6_cut 36 = .ok (.lreturn, 1) := by decide +kernel
theorem dX6_item_0 : decode cX6_item 0 = .ok (.iload_n 1, 1) := by decide +kernel
theorem dX6_item_1 : decode cX6_item 1 = .ok (.invokestatic 174, 3) := by decide +kernel
theorem dX6_item_4 : decode cX6_item 4 = .ok (.ifCond .eq 15, 3) := by decide +kernel
theorem dX6_item_7 : decode cX6_item 7 = .ok (.iload_n 2, 1) := by decide +kernel
theorem dX6_item_8 : decode cX6_item 8 = .ok (.i2l, 1) := by decide +kernel
theorem dX6_item_9 : decode cX6_item 9 = .ok (.lconst 0, 1) := by decide +kernel
theorem dX6_item_10 : decode cX6_item 10 = .ok (.ldc2_w 145, 3) := by decide +kernel
theorem dX6_item_13 : decode cX6_item 13 = .ok (.invokestatic 90, 3) := by decide +kernel
theorem dX6_item_16 : decode cX6_item 16 = .ok (.ifCond .ne 7, 3) := by decide +kernel
theorem dX6_item_19 : decode cX6_item 19 = .ok (.ldc2_w 179, 3) := by decide +kernel
theorem dX6_item_22 : decode cX6_item 22 = .ok (.lreturn, 1) := by decide +kernel
theorem dX6_item_23 : decode cX6_item 23 = .ok (.aload_n 0, 1) := by decide +kernel
theorem dX6_item_24 : decode cX6_item 24 = .ok (.iload_n 1, 1) := by decide +kernel
theorem dX6_item_25 : decode cX6_item 25 = .ok (.iload_n 2, 1) := by decide +kernel
theorem dX6_item_26 : decode cX6_item 26 = .ok (.iload_n 3, 1) := by decide +kernel
theorem dX6_item_27 : decode cX6_item 27 = .ok (.iconst 1, 1) := by decide +kernel
theorem dX6_item_28 : decode cX6_item 28 = .ok (.invokevirtual 181, 3) := by decide +kernel
theorem dX6_item_31 : decode cX6_item 31 = .ok (.istore 6, 2) := by decide +kernel
theorem dX6_item_33 : decode cX6_item 33 = .ok (.iload 6, 2) := by decide +kernel
theorem dX6_item_35 : decode cX6_item 35 = .ok (.ifCond .eq 7, 3) := by decide +kernel
theorem dX6_item_38 : decode cX6_item 38 = .ok (.iload 6, 2) := by decide +kernel
theorem dX6_item_40 : decode cX6_item 40 = .ok (.i2l, 1) := by decide +kernel
theorem dX6_item_41 : decode cX6_item 41 = .ok (.lreturn, 1) := by decide +kernel
theorem dX6_item_42 : decode cX6_item 42 = .ok (.aload_n 0, 1) := by decide +kernel
theorem dX6_item_43 : decode cX6_item 43 = .ok (.getfield 31, 3) := by decide +kernel
theorem dX6_item_46 : decode cX6_item 46 = .ok (.bipush 48, 2) := by decide +kernel
theorem dX6_item_48 : decode cX6_item 48 = .ok (.iload_n 1, 1) := by decide +kernel
theorem dX6_item_49 : decode cX6_item 49 = .ok (.imul, 1) := by decide +kernel
theorem dX6_item_50 : decode cX6_item 50 = .ok (.iload_n 3, 1) := by decide +kernel
theorem dX6_item_51 : decode cX6_item 51 = .ok (.iadd, 1) := by decide +kernel
theorem dX6_item_52 : decode cX6_item 52 = .ok (.iload_n 2, 1) := by decide +kernel
theorem dX6_item_53 : decode cX6_item 53 = .ok (.lload 4, 2) := by decide +kernel
theorem dX6_item_55 : decode cX6_item 55 = .ok (.invokestatic 185, 3) := by decide +kernel
theorem dX6_item_58 : decode cX6_item 58 = .ok (.lastore, 1) := by decide +kernel
theorem dX6_item_59 : decode cX6_item 59 = .ok (.aload_n 0, 1) := by decide +kernel
theorem dX6_item_60 : decode cX6_item 60 = .ok (.getfield 31, 3) := by decide +kernel
theorem dX6_item_63 : decode cX6_item 63 = .ok (.bipush 48, 2) := by decide +kernel
theorem dX6_item_65 : decode cX6_item 65 = .ok (.iload_n 1, 1) := by decide +kernel
theorem dX6_item_66 : decode cX6_item 66 = .ok (.imul, 1) := by decide +kernel
theorem dX6_item_67 : decode cX6_item 67 = .ok (.iload_n 3, 1) := by decide +kernel
theorem dX6_item_68 : decode cX6_item 68 = .ok (.iadd, 1) := by decide +kernel
theorem dX6_item_69 : decode cX6_item 69 = .ok (.laload, 1) := by decide +kernel
theorem dX6_item_70 : decode cX6_item 70 = .ok (.lreturn, 1) := by decide +kernel
theorem dX6_copy_0 : decode cX6_copy 0 = .ok (.iload_n 1, 1) := by decide +kernel
theorem dX6_copy_1 : decode cX6_copy 1 = .ok (.invokestatic 174, 3) := by decide +kernel
theorem dX6_copy_4 : decode cX6_copy 4 = .ok (.ifCond .eq 10, 3) := by decide +kernel
theorem dX6_copy_7 : decode cX6_copy 7 = .ok (.iload_n 3, 1) := by decide +kernel
theorem dX6_copy_8 : decode cX6_copy 8 = .ok (.invokestatic 174, 3) := by decide +kernel
theorem dX6_copy_11 : decode cX6_copy 11 = .ok (.ifCond .ne 5, 3) := by decide +kernel
theorem dX6_copy_14 : decode cX6_copy 14 = .ok (.iconst (-1), 1) := by decide +kernel
theorem dX6_copy_15 : decode cX6_copy 15 = .ok (.ireturn, 1) := by decide +kernel
theorem dX6_copy_16 : decode cX6_copy 16 = .ok (.aload_n 0, 1) := by decide +kernel
theorem dX6_copy_17 : decode cX6_copy 17 = .ok (.getfield 25, 3) := by decide +kernel
theorem dX6_copy_20 : decode cX6_copy 20 = .ok (.iload_n 1, 1) := by decide +kernel
theorem dX6_copy_21 : decode cX6_copy 21 = .ok (.iaload, 1) := by decide +kernel
theorem dX6_copy_22 : decode cX6_copy 22 = .ok (.ifCond .lt 12, 3) := by decide +kernel
theorem dX6_copy_25 : decode cX6_copy 25 = .ok (.aload_n 0, 1) := by decide +kernel
theorem dX6_copy_26 : decode cX6_copy 26 = .ok (.getfield 25, 3) := by decide +kernel
theorem dX6_copy_29 : decode cX6_copy 29 = .ok (.iload_n 3, 1) := by decide +kernel
theorem dX6_copy_30 : decode cX6_copy 30 = .ok (.iaload, 1) := by decide +kernel
theorem dX6_copy_31 : decode cX6_copy 31 = .ok (.ifCond .ge 6, 3) := by decide +kernel
theorem dX6_copy_34 : decode cX6_copy 34 = .ok (.bipush (-11), 2) := by decide +kernel
theorem dX6_copy_36 : decode cX6_copy 36 = .ok (.ireturn, 1) := by decide +kernel
theorem dX6_copy_37 : decode cX6_copy 37 = .ok (.aload_n 0, 1) := by decide +kernel
theorem dX6_copy_38 : decode cX6_copy 38 = .ok (.getfield 25, 3) := by decide +kernel
theorem dX6_copy_41 : decode cX6_copy 41 = .ok (.iload_n 1, 1) := by decide +kernel
theorem dX6_copy_42 : decode cX6_copy 42 = .ok (.iaload, 1) := by decide +kernel
theorem dX6_copy_43 : decode cX6_copy 43 = .ok (.aload_n 0, 1) := by decide +kernel
theorem dX6_copy_44 : decode cX6_copy 44 = .ok (.getfield 25, 3) := by decide +kernel
theorem dX6_copy_47 : decode cX6_copy 47 = .ok (.iload_n 3, 1) := by decide +kernel
theorem dX6_copy_48 : decode cX6_copy 48 = .ok (.iaload, 1) := by decide +kernel
theorem dX6_copy_49 : decode cX6_copy 49 = .ok (.if_icmp .eq 6, 3) := by decide +kernel
theorem dX6_copy_52 : decode cX6_copy 52 = .ok (.bipush (-12), 2) := by decide +kernel
theorem dX6_copy_54 : decode cX6_copy 54 = .ok (.ireturn, 1) := by decide +kernel
theorem dX6_copy_55 : decode cX6_copy 55 = .ok (.aload_n 0, 1) := by decide +kernel
theorem dX6_copy_56 : decode cX6_copy 56 = .ok (.iload_n 1, 1) := by decide +kernel
theorem dX6_copy_57 : decode cX6_copy 57 = .ok (.aload_n 0, 1) := by decide +kernel
theorem dX6_copy_58 : decode cX6_copy 58 = .ok (.getfield 25, 3) := by decide +kernel
theorem dX6_copy_61 : decode cX6_copy 61 = .ok (.iload_n 1, 1) := by decide +kernel
theorem dX6_copy_62 : decode cX6_copy 62 = .ok (.iaload, 1) := by decide +kernel
theorem dX6_copy_63 : decode cX6_copy 63 = .ok (.iload_n 2, 1) := by decide +kernel
theorem dX6_copy_64 : decode cX6_copy 64 = .ok (.iload 5, 2) := by decide +kernel
theorem dX6_copy_66 : decode cX6_copy 66 = .ok (.invokevirtual 181, 3) := by decide +kernel
theorem dX6_copy_69 : decode cX6_copy 69 = .ok (.ifCond .ne 21, 3) := by decide +kernel
theorem dX6_copy_72 : decode cX6_copy 72 = .ok (.aload_n 0, 1) := by decide +kernel
theorem dX6_copy_73 : decode cX6_copy 73 = .ok (.iload_n 3, 1) := by decide +kernel
theorem dX6_copy_74 : decode cX6_copy 74 = .ok (.aload_n 0, 1) := by decide +kernel
theorem dX6_copy_75 : decode cX6_copy 75 = .ok (.getfield 25, 3) := by decide +kernel
theorem dX6_copy_78 : decode cX6_copy 78 = .ok (.iload_n 3, 1) := by decide +kernel
theorem dX6_copy_79 : decode cX6_copy 79 = .ok (.iaload, 1) := by decide +kernel
theorem dX6_copy_80 : decode cX6_copy 80 = .ok (.iload 4, 2) := by decide +kernel
theorem dX6_copy_82 : decode cX6_copy 82 = .ok (.iload 5, 2) := by decide +kernel
theorem dX6_copy_84 : decode cX6_copy 84 = .ok (.invokevirtual 181, 3) := by decide +kernel
theorem dX6_copy_87 : decode cX6_copy 87 = .ok (.ifCond .eq 6, 3) := by decide +kernel
theorem dX6_copy_90 : decode cX6_copy 90 = .ok (.bipush (-13), 2) := by decide +kernel
theorem dX6_copy_92 : decode cX6_copy 92 = .ok (.ireturn, 1) := by decide +kernel
theorem dX6_copy_93 : decode cX6_copy 93 = .ok (.iconst 0, 1) := by decide +kernel
theorem dX6_copy_94 : decode cX6_copy 94 = .ok (.istore 6, 2) := by decide +kernel
theorem dX6_copy_96 : decode cX6_copy 96 = .ok (.iload 6, 2) := by decide +kernel
theorem dX6_copy_98 : decode cX6_copy 98 = .ok (.iload 5, 2) := by decide +kernel
theorem dX6_copy_100 : decode cX6_copy 100 = .ok (.if_icmp .ge 30, 3) := by decide +kernel
theorem dX6_copy_103 : decode cX6_copy 103 = .ok (.aload_n 0, 1) := by decide +kernel
theorem dX6_copy_104 : decode cX6_copy 104 = .ok (.getfield 35, 3) := by decide +kernel
theorem dX6_copy_107 : decode cX6_copy 107 = .ok (.iload 6, 2) := by decide +kernel
theorem dX6_copy_109 : decode cX6_copy 109 = .ok (.aload_n 0, 1) := by decide +kernel
theorem dX6_copy_110 : decode cX6_copy 110 = .ok (.getfield 31, 3) := by decide +kernel
theorem dX6_copy_113 : decode cX6_copy 113 = .ok (.bipush 48, 2) := by decide +kernel
theorem dX6_copy_115 : decode cX6_copy 115 = .ok (.iload_n 1, 1) := by decide +kernel
theorem dX6_copy_116 : decode cX6_copy 116 = .ok (.imul, 1) := by decide +kernel
theorem dX6_copy_117 : decode cX6_copy 117 = .ok (.iload_n 2, 1) := by decide +kernel
theorem dX6_copy_118 : decode cX6_copy 118 = .ok (.iadd, 1) := by decide +kernel
theorem dX6_copy_119 : decode cX6_copy 119 = .ok (.iload 6, 2) := by decide +kernel
theorem dX6_copy_121 : decode cX6_copy 121 = .ok (.iadd, 1) := by decide +kernel
theorem dX6_copy_122 : decode cX6_copy 122 = .ok (.laload, 1) := by decide +kernel
theorem dX6_copy_123 : decode cX6_copy 123 = .ok (.lastore, 1) := by decide +kernel
theorem dX6_copy_124 : decode cX6_copy 124 = .ok (.iinc 6 1, 3) := by decide +kernel
theorem dX6_copy_127 : decode cX6_copy 127 = .ok (.goto (-31), 3) := by decide +kernel
theorem dX6_copy_130 : decode cX6_copy 130 = .ok (.iconst 0, 1) := by decide +kernel
theorem dX6_copy_131 : decode cX6_copy 131 = .ok (.istore 6, 2) := by decide +kernel
theorem dX6_copy_133 : decode cX6_copy 133 = .ok (.iload 6, 2) := by decide +kernel
theorem dX6_copy_135 : decode cX6_copy 135 = .ok (.iload 5, 2) := by decide +kernel
theorem dX6_copy_137 : decode cX6_copy 137 = .ok (.if_icmp .ge 31, 3) := by decide +kernel
theorem dX6_copy_140 : decode cX6_copy 140 = .ok (.aload_n 0, 1) := by decide +kernel
theorem dX6_copy_141 : decode cX6_copy 141 = .ok (.getfield 31, 3) := by decide +kernel
theorem dX6_copy_144 : decode cX6_copy 144 = .ok (.bipush 48, 2) := by decide +kernel
theorem dX6_copy_146 : decode cX6_copy 146 = .ok (.iload_n 3, 1) := by decide +kernel
theorem dX6_copy_147 : decode cX6_copy 147 = .ok (.imul, 1) := by decide +kernel
theorem dX6_copy_148 : decode cX6_copy 148 = .ok (.iload 4, 2) := by decide +kernel
theorem dX6_copy_150 : decode cX6_copy 150 = .ok (.iadd, 1) := by decide +kernel
theorem dX6_copy_151 : decode cX6_copy 151 = .ok (.iload 6, 2) := by decide +kernel
theorem dX6_copy_153 : decode cX6_copy 153 = .ok (.iadd, 1) := by decide +kernel
theorem dX6_copy_154 : decode cX6_copy 154 = .ok (.aload_n 0, 1) := by decide +kernel
theorem dX6_copy_155 : decode cX6_copy 155 = .ok (.getfield 35, 3) := by decide +kernel
theorem dX6_copy_158 : decode cX6_copy 158 = .ok (.iload 6, 2) := by decide +kernel
theorem dX6_copy_160 : decode cX6_copy 160 = .ok (.laload, 1) := by decide +kernel
theorem dX6_copy_161 : decode cX6_copy 161 = .ok (.lastore, 1) := by decide +kernel
theorem dX6_copy_162 : decode cX6_copy 162 = .ok (.iinc 6 1, 3) := by decide +kernel
theorem dX6_copy_165 : decode cX6_copy 165 = .ok (.goto (-32), 3) := by decide +kernel
theorem dX6_copy_168 : decode cX6_copy 168 = .ok (.iload 5, 2) := by decide +kernel
theorem dX6_copy_170 : decode cX6_copy 170 = .ok (.ireturn, 1) := by decide +kernel
theorem dX6_spell_0 : decode cX6_spell 0 = .ok (.aload_n 0, 1) := by decide +kernel
theorem dX6_spell_1 : decode cX6_spell 1 = .ok (.invokevirtual 111, 3) := by decide +kernel
theorem dX6_spell_4 : decode cX6_spell 4 = .ok (.iload_n 1, 1) := by decide +kernel
theorem dX6_spell_5 : decode cX6_spell 5 = .ok (.i2l, 1) := by decide +kernel
theorem dX6_spell_6 : decode cX6_spell 6 = .ok (.lconst 0, 1) := by decide +kernel
theorem dX6_spell_7 : decode cX6_spell 7 = .ok (.aload_n 0, 1) := by decide +kernel
theorem dX6_spell_8 : decode cX6_spell 8 = .ok (.getfield 65, 3) := by decide +kernel
theorem dX6_spell_11 : decode cX6_spell 11 = .ok (.iconst 1, 1) := by decide +kernel
theorem dX6_spell_12 : decode cX6_spell 12 = .ok (.isub, 1) := by decide +kernel
theorem dX6_spell_13 : decode cX6_spell 13 = .ok (.i2l, 1) := by decide +kernel
theorem dX6_spell_14 : decode cX6_spell 14 = .ok (.invokestatic 90, 3) := by decide +kernel
theorem dX6_spell_17 : decode cX6_spell 17 = .ok (.ifCond .eq 22, 3) := by decide +kernel
theorem dX6_spell_20 : decode cX6_spell 20 = .ok (.iload_n 2, 1) := by decide +kernel
theorem dX6_spell_21 : decode cX6_spell 21 = .ok (.invokestatic 174, 3) := by decide +kernel
theorem dX6_spell_24 : decode cX6_spell 24 = .ok (.ifCond .eq 15, 3) := by decide +kernel
theorem dX6_spell_27 : decode cX6_spell 27 = .ok (.iload_n 3, 1) := by decide +kernel
theorem dX6_spell_28 : decode cX6_spell 28 = .ok (.i2l, 1) := by decide +kernel
theorem dX6_spell_29 : decode cX6_spell 29 = .ok (.lconst 0, 1) := by decide +kernel
theorem dX6_spell_30 : decode cX6_spell 30 = .ok (.ldc2_w 145, 3) := by decide +kernel
theorem dX6_spell_33 : decode cX6_spell 33 = .ok (.invokestatic 90, 3) := by decide +kernel
theorem dX6_spell_36 : decode cX6_spell 36 = .ok (.ifCond .ne 5, 3) := by decide +kernel
theorem dX6_spell_39 : decode cX6_spell 39 = .ok (.iconst (-1), 1) := by decide +kernel
theorem dX6_spell_40 : decode cX6_spell 40 = .ok (.ireturn, 1) := by decide +kernel
theorem dX6_spell_41 : decode cX6_spell 41 = .ok (.aload_n 0, 1) := by decide +kernel
theorem dX6_spell_42 : decode cX6_spell 42 = .ok (.getfield 41, 3) := by decide +kernel
theorem dX6_spell_45 : decode cX6_spell 45 = .ok (.iload_n 1, 1) := by decide +kernel
theorem dX6_spell_46 : decode cX6_spell 46 = .ok (.iaload, 1) := by decide +kernel
theorem dX6_spell_47 : decode cX6_spell 47 = .ok (.istore 5, 2) := by decide +kernel
theorem dX6_spell_49 : decode cX6_spell 49 = .ok (.aload_n 0, 1) := by decide +kernel
theorem dX6_spell_50 : decode cX6_spell 50 = .ok (.iload_n 2, 1) := by decide +kernel
theorem dX6_spell_51 : decode cX6_spell 51 = .ok (.iload_n 3, 1) := by decide +kernel
theorem dX6_spell_52 : decode cX6_spell 52 = .ok (.iload 4, 2) := by decide +kernel
theorem dX6_spell_54 : decode cX6_spell 54 = .ok (.iload 5, 2) := by decide +kernel
theorem dX6_spell_56 : decode cX6_spell 56 = .ok (.invokevirtual 181, 3) := by decide +kernel
theorem dX6_spell_59 : decode cX6_spell 59 = .ok (.istore 6, 2) := by decide +kernel
theorem dX6_spell_61 : decode cX6_spell 61 = .ok (.iload 6, 2) := by decide +kernel
theorem dX6_spell_63 : decode cX6_spell 63 = .ok (.ifCond .eq 6, 3) := by decide +kernel
theorem dX6_spell_66 : decode cX6_spell 66 = .ok (.iload 6, 2) := by decide +kernel
theorem dX6_spell_68 : decode cX6_spell 68 = .ok (.ireturn, 1) := by decide +kernel
theorem dX6_spell_69 : decode cX6_spell 69 = .ok (.iconst 0, 1) := by decide +kernel
theorem dX6_spell_70 : decode cX6_spell 70 = .ok (.istore 7, 2) := by decide +kernel
theorem dX6_spell_72 : decode cX6_spell 72 = .ok (.iload 7, 2) := by decide +kernel
theorem dX6_spell_74 : decode cX6_spell 74 = .ok (.iload 5, 2) := by decide +kernel
theorem dX6_spell_76 : decode cX6_spell 76 = .ok (.if_icmp .ge 42, 3) := by decide +kernel
theorem dX6_spell_79 : decode cX6_spell 79 = .ok (.aload_n 0, 1) := by decide +kernel
theorem dX6_spell_80 : decode cX6_spell 80 = .ok (.getfield 31, 3) := by decide +kernel
theorem dX6_spell_83 : decode cX6_spell 83 = .ok (.bipush 48, 2) := by decide +kernel
theorem dX6_spell_85 : decode cX6_spell 85 = .ok (.iload_n 2, 1) := by decide +kernel
theorem dX6_spell_86 : decode cX6_spell 86 = .ok (.imul, 1) := by decide +kernel
theorem dX6_spell_87 : decode cX6_spell 87 = .ok (.iload 4, 2) := by decide +kernel
theorem dX6_spell_89 : decode cX6_spell 89 = .ok (.iadd, 1) := by decide +kernel
theorem dX6_spell_90 : decode cX6_spell 90 = .ok (.iload 7, 2) := by decide +kernel
theorem dX6_spell_92 : decode cX6_spell 92 = .ok (.iadd, 1) := by decide +kernel
theorem dX6_spell_93 : decode cX6_spell 93 = .ok (.bipush 97, 2) := by decide +kernel
theorem dX6_spell_95 : decode cX6_spell 95 = .ok (.aload_n 0, 1) := by decide +kernel
theorem dX6_spell_96 : decode cX6_spell 96 = .ok (.getfield 7, 3) := by decide +kernel
theorem dX6_spell_99 : decode cX6_spell 99 = .ok (.aload_n 0, 1) := by decide +kernel
theorem dX6_spell_100 : decode cX6_spell 100 = .ok (.getfield 38, 3) := by decide +kernel
theorem dX6_spell_103 : decode cX6_spell 103 = .ok (.iload_n 1, 1) := by decide +kernel
theorem dX6_spell_104 : decode cX6_spell 104 = .ok (.iaload, 1) := by decide +kernel
theorem dX6_spell_105 : decode cX6_spell 105 = .ok (.iload 7, 2) := by decide +kernel
theorem dX6_spell_107 : decode cX6_spell 107 = .ok (.iadd, 1) := by decide +kernel
theorem dX6_spell_108 : decode cX6_spell 108 = .ok (.iaload, 1) := by decide +kernel
theorem dX6_spell_109 : decode cX6_spell 109 = .ok (.iadd, 1) := by decide +kernel
theorem dX6_spell_110 : decode cX6_spell 110 = .ok (.i2l, 1) := by decide +kernel
theorem dX6_spell_111 : decode cX6_spell 111 = .ok (.lastore, 1) := by decide +kernel
theorem dX6_spell_112 : decode cX6_spell 112 = .ok (.iinc 7 1, 3) := by decide +kernel
theorem dX6_spell_115 : decode cX6_spell 115 = .ok (.goto (-43), 3) := by decide +kernel
theorem dX6_spell_118 : decode cX6_spell 118 = .ok (.iload 5, 2) := by decide +kernel
theorem dX6_spell_120 : decode cX6_spell 120 = .ok (.ireturn, 1) := by decide +kernel
theorem dX6_read_0 : decode cX6_read 0 = .ok (.iload_n 1, 1) := by decide +kernel
theorem dX6_read_1 : decode cX6_read 1 = .ok (.invokestatic 174, 3) := by decide +kernel
theorem dX6_read_4 : decode cX6_read 4 = .ok (.ifCond .eq 28, 3) := by decide +kernel
theorem dX6_read_7 : decode cX6_read 7 = .ok (.iload_n 2, 1) := by decide +kernel
theorem dX6_read_8 : decode cX6_read 8 = .ok (.i2l, 1) := by decide +kernel
theorem dX6_read_9 : decode cX6_read 9 = .ok (.lconst 0, 1) := by decide +kernel
theorem dX6_read_10 : decode cX6_read 10 = .ok (.ldc2_w 145, 3) := by decide +kernel
theorem dX6_read_13 : decode cX6_read 13 = .ok (.invokestatic 90, 3) := by decide +kernel
theorem dX6_read_16 : decode cX6_read 16 = .ok (.ifCond .eq 16, 3) := by decide +kernel
theorem dX6_read_19 : decode cX6_read 19 = .ok (.iload 4, 2) := by decide +kernel
theorem dX6_read_21 : decode cX6_read 21 = .ok (.i2l, 1) := by decide +kernel
theorem dX6_read_22 : decode cX6_read 22 = .ok (.lconst 0, 1) := by decide +kernel
theorem dX6_read_23 : decode cX6_read 23 = .ok (.ldc2_w 189, 3) := by decide +kernel
theorem dX6_read_26 : decode cX6_read 26 = .ok (.invokestatic 90, 3) := by decide +kernel
theorem dX6_read_29 : decode cX6_read 29 = .ok (.ifCond .ne 5, 3) := by decide +kernel
theorem dX6_read_32 : decode cX6_read 32 = .ok (.iconst (-1), 1) := by decide +kernel
theorem dX6_read_33 : decode cX6_read 33 = .ok (.ireturn, 1) := by decide +kernel
theorem dX6_read_34 : decode cX6_read 34 = .ok (.aload_n 0, 1) := by decide +kernel
theorem dX6_read_35 : decode cX6_read 35 = .ok (.iload_n 1, 1) := by decide +kernel
theorem dX6_read_36 : decode cX6_read 36 = .ok (.iload_n 2, 1) := by decide +kernel
theorem dX6_read_37 : decode cX6_read 37 = .ok (.iload_n 3, 1) := by decide +kernel
theorem dX6_read_38 : decode cX6_read 38 = .ok (.iload 4, 2) := by decide +kernel
theorem dX6_read_40 : decode cX6_read 40 = .ok (.invokevirtual 181, 3) := by decide +kernel
theorem dX6_read_43 : decode cX6_read 43 = .ok (.istore 5, 2) := by decide +kernel
theorem dX6_read_45 : decode cX6_read 45 = .ok (.iload 5, 2) := by decide +kernel
theorem dX6_read_47 : decode cX6_read 47 = .ok (.ifCond .eq 6, 3) := by decide +kernel
theorem dX6_read_50 : decode cX6_read 50 = .ok (.iload 5, 2) := by decide +kernel
theorem dX6_read_52 : decode cX6_read 52 = .ok (.ireturn, 1) := by decide +kernel
theorem dX6_read_53 : decode cX6_read 53 = .ok (.iconst 0, 1) := by decide +kernel
theorem dX6_read_54 : decode cX6_read 54 = .ok (.istore 6, 2) := by decide +kernel
theorem dX6_read_56 : decode cX6_read 56 = .ok (.iload 6, 2) := by decide +kernel
theorem dX6_read_58 : decode cX6_read 58 = .ok (.iload 4, 2) := by decide +kernel
theorem dX6_read_60 : decode cX6_read 60 = .ok (.if_icmp .ge 36, 3) := by decide +kernel
theorem dX6_read_63 : decode cX6_read 63 = .ok (.aload_n 0, 1) := by decide +kernel
theorem dX6_read_64 : decode cX6_read 64 = .ok (.getfield 31, 3) := by decide +kernel
theorem dX6_read_67 : decode cX6_read 67 = .ok (.bipush 48, 2) := by decide +kernel
theorem dX6_read_69 : decode cX6_read 69 = .ok (.iload_n 1, 1) := by decide +kernel
theorem dX6_read_70 : decode cX6_read 70 = .ok (.imul, 1) := by decide +kernel
theorem dX6_read_71 : decode cX6_read 71 = .ok (.iload_n 3, 1) := by decide +kernel
theorem dX6_read_72 : decode cX6_read 72 = .ok (.iadd, 1) := by decide +kernel
theorem dX6_read_73 : decode cX6_read 73 = .ok (.iload 6, 2) := by decide +kernel
theorem dX6_read_75 : decode cX6_read 75 = .ok (.iadd, 1) := by decide +kernel
theorem dX6_read_76 : decode cX6_read 76 = .ok (.laload, 1) := by decide +kernel
theorem dX6_read_77 : decode cX6_read 77 = .ok (.lconst 0, 1) := by decide +kernel
theorem dX6_read_78 : decode cX6_read 78 = .ok (.ldc2_w 166, 3) := by decide +kernel
theorem dX6_read_81 : decode cX6_read 81 = .ok (.invokestatic 90, 3) := by decide +kernel
theorem dX6_read_84 : decode cX6_read 84 = .ok (.ifCond .ne 6, 3) := by decide +kernel
theorem dX6_read_87 : decode cX6_read 87 = .ok (.bipush (-2), 2) := by decide +kernel
theorem dX6_read_89 : decode cX6_read 89 = .ok (.ireturn, 1) := by decide +kernel
theorem dX6_read_90 : decode cX6_read 90 = .ok (.iinc 6 1, 3) := by decide +kernel
theorem dX6_read_93 : decode cX6_read 93 = .ok (.goto (-37), 3) := by decide +kernel
theorem dX6_read_96 : decode cX6_read 96 = .ok (.aload_n 0, 1) := by decide +kernel
theorem dX6_read_97 : decode cX6_read 97 = .ok (.getfield 168, 3) := by decide +kernel
theorem dX6_read_100 : decode cX6_read 100 = .ok (.iload 4, 2) := by decide +kernel
theorem dX6_read_102 : decode cX6_read 102 = .ok (.iadd, 1) := by decide +kernel
theorem dX6_read_103 : decode cX6_read 103 = .ok (.bipush 48, 2) := by decide +kernel
theorem dX6_read_105 : decode cX6_read 105 = .ok (.if_icmp .le 6, 3) := by decide +kernel
theorem dX6_read_108 : decode cX6_read 108 = .ok (.bipush (-3), 2) := by decide +kernel
theorem dX6_read_110 : decode cX6_read 110 = .ok (.ireturn, 1) := by decide +kernel
theorem dX6_read_111 : decode cX6_read 111 = .ok (.iconst 0, 1) := by decide +kernel
theorem dX6_read_112 : decode cX6_read 112 = .ok (.istore 6, 2) := by decide +kernel
theorem dX6_read_114 : decode cX6_read 114 = .ok (.iload 6, 2) := by decide +kernel
theorem dX6_read_116 : decode cX6_read 116 = .ok (.iload 4, 2) := by decide +kernel
theorem dX6_read_118 : decode cX6_read 118 = .ok (.if_icmp .ge 43, 3) := by decide +kernel
theorem dX6_read_121 : decode cX6_read 121 = .ok (.aload_n 0, 1) := by decide +kernel
theorem dX6_read_122 : decode cX6_read 122 = .ok (.getfield 22, 3) := by decide +kernel
theorem dX6_read_125 : decode cX6_read 125 = .ok (.aload_n 0, 1) := by decide +kernel
theorem dX6_read_126 : decode cX6_read 126 = .ok (.getfield 168, 3) := by decide +kernel
theorem dX6_read_129 : decode cX6_read 129 = .ok (.aload_n 0, 1) := by decide +kernel
theorem dX6_read_130 : decode cX6_read 130 = .ok (.getfield 31, 3) := by decide +kernel
theorem dX6_read_133 : decode cX6_read 133 = .ok (.bipush 48, 2) := by decide +kernel
theorem dX6_read_135 : decode cX6_read 135 = .ok (.iload_n 1, 1) := by decide +kernel
theorem dX6_read_136 : decode cX6_read 136 = .ok (.imul, 1) := by decide +kernel
theorem dX6_read_137 : decode cX6_read 137 = .ok (.iload_n 3, 1) := by decide +kernel
theorem dX6_read_138 : decode cX6_read 138 = .ok (.iadd, 1) := by decide +kernel
theorem dX6_read_139 : decode cX6_read 139 = .ok (.iload 6, 2) := by decide +kernel
theorem dX6_read_141 : decode cX6_read 141 = .ok (.iadd, 1) := by decide +kernel
theorem dX6_read_142 : decode cX6_read 142 = .ok (.laload, 1) := by decide +kernel
theorem dX6_read_143 : decode cX6_read 143 = .ok (.l2i, 1) := by decide +kernel
theorem dX6_read_144 : decode cX6_read 144 = .ok (.iastore, 1) := by decide +kernel
theorem dX6_read_145 : decode cX6_read 145 = .ok (.aload_n 0, 1) := by decide +kernel
theorem dX6_read_146 : decode cX6_read 146 = .ok (.dup, 1) := by decide +kernel
theorem dX6_read_147 : decode cX6_read 147 = .ok (.getfield 168, 3) := by decide +kernel
theorem dX6_read_150 : decode cX6_read 150 = .ok (.iconst 1, 1) := by decide +kernel
theorem dX6_read_151 : decode cX6_read 151 = .ok (.iadd, 1) := by decide +kernel
theorem dX6_read_152 : decode cX6_read 152 = .ok (.putfield 168, 3) := by decide +kernel
theorem dX6_read_155 : decode cX6_read 155 = .ok (.iinc 6 1, 3) := by decide +kernel
theorem dX6_read_158 : decode cX6_read 158 = .ok (.goto (-44), 3) := by decide +kernel
theorem dX6_read_161 : decode cX6_read 161 = .ok (.aload_n 0, 1) := by decide +kernel
theorem dX6_read_162 : decode cX6_read 162 = .ok (.getfield 168, 3) := by decide +kernel
theorem dX6_read_165 : decode cX6_read 165 = .ok (.ireturn, 1) := by decide +kernel
theorem dX6_ofAll_0 : decode cX6_ofAll 0 = .ok (.iconst 0, 1) := by decide +kernel
theorem dX6_ofAll_1 : decode cX6_ofAll 1 = .ok (.istore_n 2, 1) := by decide +kernel
theorem dX6_ofAll_2 : decode cX6_ofAll 2 = .ok (.iconst 0, 1) := by decide +kernel
theorem dX6_ofAll_3 : decode cX6_ofAll 3 = .ok (.istore_n 3, 1) := by decide +kernel
theorem dX6_ofAll_4 : decode cX6_ofAll 4 = .ok (.iconst 0, 1) := by decide +kernel
theorem dX6_ofAll_5 : decode cX6_ofAll 5 = .ok (.istore 4, 2) := by decide +kernel
theorem dX6_ofAll_7 : decode cX6_ofAll 7 = .ok (.iload 4, 2) := by decide +kernel
theorem dX6_ofAll_9 : decode cX6_ofAll 9 = .ok (.aload_n 0, 1) := by decide +kernel
theorem dX6_ofAll_10 : decode cX6_ofAll 10 = .ok (.getfield 65, 3) := by decide +kernel
theorem dX6_ofAll_13 : decode cX6_ofAll 13 = .ok (.if_icmp .ge 73, 3) := by decide +kernel
theorem dX6_ofAll_16 : decode cX6_ofAll 16 = .ok (.iload_n 2, 1) := by decide +kernel
theorem dX6_ofAll_17 : decode cX6_ofAll 17 = .ok (.iload_n 1, 1) := by decide +kernel
theorem dX6_ofAll_18 : decode cX6_ofAll 18 = .ok (.iconst 2, 1) := by decide +kernel
theorem dX6_ofAll_19 : decode cX6_ofAll 19 = .ok (.if_icmp .ne 25, 3) := by decide +kernel
theorem dX6_ofAll_22 : decode cX6_ofAll 22 = .ok (.aload_n 0, 1) := by decide +kernel
theorem dX6_ofAll_23 : decode cX6_ofAll 23 = .ok (.aload_n 0, 1) := by decide +kernel
theorem dX6_ofAll_24 : decode cX6_ofAll 24 = .ok (.getfield 38, 3) := by decide +kernel
theorem dX6_ofAll_27 : decode cX6_ofAll 27 = .ok (.iload 4, 2) := by decide +kernel
theorem dX6_ofAll_29 : decode cX6_ofAll 29 = .ok (.iaload, 1) := by decide +kernel
theorem dX6_ofAll_30 : decode cX6_ofAll 30 = .ok (.aload_n 0, 1) := by decide +kernel
theorem dX6_ofAll_31 : decode cX6_ofAll 31 = .ok (.getfield 41, 3) := by decide +kernel
theorem dX6_ofAll_34 : decode cX6_ofAll 34 = .ok (.iload 4, 2) := by decide +kernel
theorem dX6_ofAll_36 : decode cX6_ofAll 36 = .ok (.iaload, 1) := by decide +kernel
theorem dX6_ofAll_37 : decode cX6_ofAll 37 = .ok (.iconst 3, 1) := by decide +kernel
theorem dX6_ofAll_38 : decode cX6_ofAll 38 = .ok (.invokevirtual 116, 3) := by decide +kernel
theorem dX6_ofAll_41 : decode cX6_ofAll 41 = .ok (.goto 14, 3) := by decide +kernel
theorem dX6_ofAll_44 : decode cX6_ofAll 44 = .ok (.iconst 1, 1) := by decide +kernel
theorem dX6_ofAll_45 : decode cX6_ofAll 45 = .ok (.aload_n 0, 1) := by decide +kernel
theorem dX6_ofAll_46 : decode cX6_ofAll 46 = .ok (.getfield 41, 3) := by decide +kernel
theorem dX6_ofAll_49 : decode cX6_ofAll 49 = .ok (.iload 4, 2) := by decide +kernel
theorem dX6_ofAll_51 : decode cX6_ofAll 51 = .ok (.iaload, 1) := by decide +kernel
theorem dX6_ofAll_52 : decode cX6_ofAll 52 = .ok (.iconst 2, 1) := by decide +kernel
theorem dX6_ofAll_53 : decode cX6_ofAll 53 = .ok (.irem, 1) := by decide +kernel
theorem dX6_ofAll_54 : decode cX6_ofAll 54 = .ok (.isub, 1) := by decide +kernel
theorem dX6_ofAll_55 : decode cX6_ofAll 55 = .ok (.iadd, 1) := by decide +kernel
theorem dX6_ofAll_56 : decode cX6_ofAll 56 = .ok (.istore_n 2, 1) := by decide +kernel
theorem dX6_ofAll_57 : decode cX6_ofAll 57 = .ok (.aload_n 0, 1) := by decide +kernel
theorem dX6_ofAll_58 : decode cX6_ofAll 58 = .ok (.getfield 41, 3) := by decide +kernel
theorem dX6_ofAll_61 : decode cX6_ofAll 61 = .ok (.iload 4, 2) := by decide +kernel
theorem dX6_ofAll_63 : decode cX6_ofAll 63 = .ok (.iaload, 1) := by decide +kernel
theorem dX6_ofAll_64 : decode cX6_ofAll 64 = .ok (.iload_n 3, 1) := by decide +kernel
theorem dX6_ofAll_65 : decode cX6_ofAll 65 = .ok (.if_icmp .le 13, 3) := by decide +kernel
theorem dX6_ofAll_68 : decode cX6_ofAll 68 = .ok (.aload_n 0, 1) := by decide +kernel
theorem dX6_ofAll_69 : decode cX6_ofAll 69 = .ok (.getfield 41, 3) := by decide +kernel
theorem dX6_ofAll_72 : decode cX6_ofAll 72 = .ok (.iload 4, 2) := by decide +kernel
theorem dX6_ofAll_74 : decode cX6_ofAll 74 = .ok (.iaload, 1) := by decide +kernel
theorem dX6_ofAll_75 : decode cX6_ofAll 75 = .ok (.goto 4, 3) := by decide +kernel
theorem dX6_ofAll_78 : decode cX6_ofAll 78 = .ok (.iload_n 3, 1) := by decide +kernel
theorem dX6_ofAll_79 : decode cX6_ofAll 79 = .ok (.istore_n 3, 1) := by decide +kernel
theorem dX6_ofAll_80 : decode cX6_ofAll 80 = .ok (.iinc 4 1, 3) := by decide +kernel
theorem dX6_ofAll_83 : decode cX6_ofAll 83 = .ok (.goto (-76), 3) := by decide +kernel
theorem dX6_ofAll_86 : decode cX6_ofAll 86 = .ok (.iload_n 1, 1) := by decide +kernel
theorem dX6_ofAll_87 : decode cX6_ofAll 87 = .ok (.iconst 4, 1) := by decide +kernel
theorem dX6_ofAll_88 : decode cX6_ofAll 88 = .ok (.if_icmp .ne 7, 3) := by decide +kernel
theorem dX6_ofAll_91 : decode cX6_ofAll 91 = .ok (.iload_n 3, 1) := by decide +kernel
theorem dX6_ofAll_92 : decode cX6_ofAll 92 = .ok (.goto 4, 3) := by decide +kernel
theorem dX6_ofAll_95 : decode cX6_ofAll 95 = .ok (.iload_n 2, 1) := by decide +kernel
theorem dX6_ofAll_96 : decode cX6_ofAll 96 = .ok (.ireturn, 1) := by decide +kernel
theorem dX6_count_0 : decode cX6_count 0 = .ok (.aload_n 0, 1) := by decide +kernel
theorem dX6_count_1 : decode cX6_count 1 = .ok (.invokevirtual 111, 3) := by decide +kernel
theorem dX6_count_4 : decode cX6_count 4 = .ok (.iload_n 1, 1) := by decide +kernel
theorem dX6_count_5 : decode cX6_count 5 = .ok (.tableswitch 90 0 7 #[47, 52, 57, 57, 57, 63, 80, 85], 47) := by decide +kernel
theorem dX6_count_52 : decode cX6_count 52 = .ok (.aload_n 0, 1) := by decide +kernel
theorem dX6_count_53 : decode cX6_count 53 = .ok (.getfield 69, 3) := by decide +kernel
theorem dX6_count_56 : decode cX6_count 56 = .ok (.ireturn, 1) := by decide +kernel
theorem dX6_count_57 : decode cX6_count 57 = .ok (.aload_n 0, 1) := by decide +kernel
theorem dX6_count_58 : decode cX6_count 58 = .ok (.getfield 65, 3) := by decide +kernel
theorem dX6_count_61 : decode cX6_count 61 = .ok (.ireturn, 1) := by decide +kernel
theorem dX6_count_62 : decode cX6_count 62 = .ok (.aload_n 0, 1) := by decide +kernel
theorem dX6_count_63 : decode cX6_count 63 = .ok (.iload_n 1, 1) := by decide +kernel
theorem dX6_count_64 : decode cX6_count 64 = .ok (.invokevirtual 191, 3) := by decide +kernel
theorem dX6_count_67 : decode cX6_count 67 = .ok (.ireturn, 1) := by decide +kernel
theorem dX6_count_68 : decode cX6_count 68 = .ok (.aload_n 0, 1) := by decide +kernel
theorem dX6_count_69 : decode cX6_count 69 = .ok (.getfield 65, 3) := by decide +kernel
theorem dX6_count_72 : decode cX6_count 72 = .ok (.aload_n 0, 1) := by decide +kernel
theorem dX6_count_73 : decode cX6_count 73 = .ok (.getfield 69, 3) := by decide +kernel
theorem dX6_count_76 : decode cX6_count 76 = .ok (.if_icmp .ne 7, 3) := by decide +kernel
theorem dX6_count_79 : decode cX6_count 79 = .ok (.iconst 1, 1) := by decide +kernel
theorem dX6_count_80 : decode cX6_count 80 = .ok (.goto 4, 3) := by decide +kernel
theorem dX6_count_83 : decode cX6_count 83 = .ok (.iconst 0, 1) := by decide +kernel
theorem dX6_count_84 : decode cX6_count 84 = .ok (.ireturn, 1) := by decide +kernel
theorem dX6_count_85 : decode cX6_count 85 = .ok (.aload_n 0, 1) := by decide +kernel
theorem dX6_count_86 : decode cX6_count 86 = .ok (.getfield 94, 3) := by decide +kernel
theorem dX6_count_89 : decode cX6_count 89 = .ok (.ireturn, 1) := by decide +kernel
theorem dX6_count_90 : decode cX6_count 90 = .ok (.aload_n 0, 1) := by decide +kernel
theorem dX6_count_91 : decode cX6_count 91 = .ok (.getfield 168, 3) := by decide +kernel
theorem dX6_count_94 : decode cX6_count 94 = .ok (.ireturn, 1) := by decide +kernel
theorem dX6_count_95 : decode cX6_count 95 = .ok (.iconst (-1), 1) := by decide +kernel
theorem dX6_count_96 : decode cX6_count 96 = .ok (.ireturn, 1) := by decide +kernel
theorem dJ9_max_7cf53_0 : decode cJ9_max_7cf53 0 = .ok (.iload_n 0, 1) := by decide +kernel
theorem dJ9_max_7cf53_1 : decode cJ9_max_7cf53 1 = .ok (.iload_n 1, 1) := by decide +kernel
theorem dJ9_max_7cf53_2 : decode cJ9_max_7cf53 2 = .ok (.if_icmp .lt 7, 3) := by decide +kernel
theorem dJ9_max_7cf53_5 : decode cJ9_max_7cf53 5 = .ok (.iload_n 0, 1) := by decide +kernel
theorem dJ9_max_7cf53_6 : decode cJ9_max_7cf53 6 = .ok (.goto 4, 3) := by decide +kernel
theorem dJ9_max_7cf53_9 : decode cJ9_max_7cf53 9 = .ok (.iload_n 1, 1) := by decide +kernel
theorem dJ9_max_7cf53_10 : decode cJ9_max_7cf53 10 = .ok (.ireturn, 1) := by decide +kernel
theorem dJ9_min_7cf53_0 : decode cJ9_min_7cf53 0 = .ok (.iload_n 0, 1) := by decide +kernel
theorem dJ9_min_7cf53_1 : decode cJ9_min_7cf53 1 = .ok (.iload_n 1, 1) := by decide +kernel
theorem dJ9_min_7cf53_2 : decode cJ9_min_7cf53 2 = .ok (.if_icmp .gt 7, 3) := by decide +kernel
theorem dJ9_min_7cf53_5 : decode cJ9_min_7cf53 5 = .ok (.iload_n 0, 1) := by decide +kernel
theorem dJ9_min_7cf53_6 : decode cJ9_min_7cf53 6 = .ok (.goto 4, 3) := by decide +kernel
theorem dJ9_min_7cf53_9 : decode cJ9_min_7cf53 9 = .ok (.iload_n 1, 1) := by decide +kernel
theorem dJ9_min_7cf53_10 : decode cJ9_min_7cf53 10 = .ok (.ireturn, 1) := by decide +kernel
theorem dJ7_fill_d0a16_0 : decode cJ7_fill_d0a16 0 = .ok (.iconst 0, 1) := by decide +kernel
theorem dJ7_fill_d0a16_1 : decode cJ7_fill_d0a16 1 = .ok (.istore_n 3, 1) := by decide +kernel
theorem dJ7_fill_d0a16_2 : decode cJ7_fill_d0a16 2 = .ok (.aload_n 0, 1) := by decide +kernel
theorem dJ7_fill_d0a16_3 : decode cJ7_fill_d0a16 3 = .ok (.arraylength, 1) := by decide +kernel
theorem dJ7_fill_d0a16_4 : decode cJ7_fill_d0a16 4 = .ok (.istore 4, 2) := by decide +kernel
theorem dJ7_fill_d0a16_6 : decode cJ7_fill_d0a16 6 = .ok (.iload_n 3, 1) := by decide +kernel
theorem dJ7_fill_d0a16_7 : decode cJ7_fill_d0a16 7 = .ok (.iload 4, 2) := by decide +kernel
theorem dJ7_fill_d0a16_9 : decode cJ7_fill_d0a16 9 = .ok (.if_icmp .ge 13, 3) := by decide +kernel
theorem dJ7_fill_d0a16_12 : decode cJ7_fill_d0a16 12 = .ok (.aload_n 0, 1) := by decide +kernel
theorem dJ7_fill_d0a16_13 : decode cJ7_fill_d0a16 13 = .ok (.iload_n 3, 1) := by decide +kernel
theorem dJ7_fill_d0a16_14 : decode cJ7_fill_d0a16 14 = .ok (.lload_n 1, 1) := by decide +kernel
theorem dJ7_fill_d0a16_15 : decode cJ7_fill_d0a16 15 = .ok (.lastore, 1) := by decide +kernel
theorem dJ7_fill_d0a16_16 : decode cJ7_fill_d0a16 16 = .ok (.iinc 3 1, 3) := by decide +kernel
theorem dJ7_fill_d0a16_19 : decode cJ7_fill_d0a16 19 = .ok (.goto (-13), 3) := by decide +kernel
theorem dJ7_fill_d0a16_22 : decode cJ7_fill_d0a16 22 = .ok (.return_, 1) := by decide +kernel
theorem dJ7_fill_53178_0 : decode cJ7_fill_53178 0 = .ok (.iconst 0, 1) := by decide +kernel
theorem dJ7_fill_53178_1 : decode cJ7_fill_53178 1 = .ok (.istore_n 2, 1) := by decide +kernel
theorem dJ7_fill_53178_2 : decode cJ7_fill_53178 2 = .ok (.aload_n 0, 1) := by decide +kernel
theorem dJ7_fill_53178_3 : decode cJ7_fill_53178 3 = .ok (.arraylength, 1) := by decide +kernel
theorem dJ7_fill_53178_4 : decode cJ7_fill_53178 4 = .ok (.istore_n 3, 1) := by decide +kernel
theorem dJ7_fill_53178_5 : decode cJ7_fill_53178 5 = .ok (.iload_n 2, 1) := by decide +kernel
theorem dJ7_fill_53178_6 : decode cJ7_fill_53178 6 = .ok (.iload_n 3, 1) := by decide +kernel
theorem dJ7_fill_53178_7 : decode cJ7_fill_53178 7 = .ok (.if_icmp .ge 13, 3) := by decide +kernel
theorem dJ7_fill_53178_10 : decode cJ7_fill_53178 10 = .ok (.aload_n 0, 1) := by decide +kernel
theorem dJ7_fill_53178_11 : decode cJ7_fill_53178 11 = .ok (.iload_n 2, 1) := by decide +kernel
theorem dJ7_fill_53178_12 : decode cJ7_fill_53178 12 = .ok (.iload_n 1, 1) := by decide +kernel
theorem dJ7_fill_53178_13 : decode cJ7_fill_53178 13 = .ok (.iastore, 1) := by decide +kernel
theorem dJ7_fill_53178_14 : decode cJ7_fill_53178 14 = .ok (.iinc 2 1, 3) := by decide +kernel
theorem dJ7_fill_53178_17 : decode cJ7_fill_53178 17 = .ok (.goto (-12), 3) := by decide +kernel
theorem dJ7_fill_53178_20 : decode cJ7_fill_53178 20 = .ok (.return_, 1) := by decide +kernel
theorem dL_law_0 : decode cL_law 0 = .ok (.new 7, 3) := by decide +kernel
theorem dL_law_3 : decode cL_law 3 = .ok (.dup, 1) := by decide +kernel
theorem dL_law_4 : decode cL_law 4 = .ok (.invokespecial 9, 3) := by decide +kernel
theorem dL_law_7 : decode cL_law 7 = .ok (.astore_n 1, 1) := by decide +kernel
theorem dL_law_8 : decode cL_law 8 = .ok (.new 10, 3) := by decide +kernel
theorem dL_law_11 : decode cL_law 11 = .ok (.dup, 1) := by decide +kernel
theorem dL_law_12 : decode cL_law 12 = .ok (.invokespecial 12, 3) := by decide +kernel
theorem dL_law_15 : decode cL_law 15 = .ok (.astore_n 2, 1) := by decide +kernel
theorem dL_law_16 : decode cL_law 16 = .ok (.iconst 0, 1) := by decide +kernel
theorem dL_law_17 : decode cL_law 17 = .ok (.istore_n 3, 1) := by decide +kernel
theorem dL_law_18 : decode cL_law 18 = .ok (.iload_n 3, 1) := by decide +kernel
theorem dL_law_19 : decode cL_law 19 = .ok (.aload_n 0, 1) := by decide +kernel
theorem dL_law_20 : decode cL_law 20 = .ok (.arraylength, 1) := by decide +kernel
theorem dL_law_21 : decode cL_law 21 = .ok (.bipush 6, 2) := by decide +kernel
theorem dL_law_23 : decode cL_law 23 = .ok (.isub, 1) := by decide +kernel
theorem dL_law_24 : decode cL_law 24 = .ok (.if_icmp .gt 1128, 3) := by decide +kernel
theorem dL_law_27 : decode cL_law 27 = .ok (.aload_n 0, 1) := by decide +kernel
theorem dL_law_28 : decode cL_law 28 = .ok (.iload_n 3, 1) := by decide +kernel
theorem dL_law_29 : decode cL_law 29 = .ok (.iaload, 1) := by decide +kernel
theorem dL_law_30 : decode cL_law 30 = .ok (.bipush 31, 2) := by decide +kernel
theorem dL_law_32 : decode cL_law 32 = .ok (.iand, 1) := by decide +kernel
theorem dL_law_33 : decode cL_law 33 = .ok (.tableswitch 1113 0 30 #[139, 162, 175, 208, 221, 244, 277, 300, 323, 356, 389, 412, 445, 468, 511, 534, 557, 590, 623, 666, 709, 732, 745, 758, 771, 814, 837, 921, 984, 1037, 1090], 139) := by decide +kernel
theorem dL_law_172 : decode cL_law 172 = .ok (.aload_n 1, 1) := by decide +kernel
theorem dL_law_173 : decode cL_law 173 = .ok (.aload_n 0, 1) := by decide +kernel
theorem dL_law_174 : decode cL_law 174 = .ok (.iload_n 3, 1) := by decide +kernel
theorem dL_law_175 : decode cL_law 175 = .ok (.iconst 1, 1) := by decide +kernel
theorem dL_law_176 : decode cL_law 176 = .ok (.iadd, 1) := by decide +kernel
theorem dL_law_177 : decode cL_law 177 = .ok (.iaload, 1) := by decide +kernel
theorem dL_law_178 : decode cL_law 178 = .ok (.invokevirtual 13, 3) := by decide +kernel
theorem dL_law_181 : decode cL_law 181 = .ok (.aload_n 2, 1) := by decide +kernel
theorem dL_law_182 : decode cL_law 182 = .ok (.aload_n 0, 1) := by decide +kernel
theorem dL_law_183 : decode cL_law 183 = .ok (.iload_n 3, 1) := by decide +kernel
theorem dL_law_184 : decode cL_law 184 = .ok (.iconst 1, 1) := by decide +kernel
theorem dL_law_185 : decode cL_law 185 = .ok (.iadd, 1) := by decide +kernel
theorem dL_law_186 : decode cL_law 186 = .ok (.iaload, 1) := by decide +kernel
theorem dL_law_187 : decode cL_law 187 = .ok (.invokevirtual 17, 3) := by decide +kernel
theorem dL_law_190 : decode cL_law 190 = .ok (.if_icmp .eq 956, 3) := by decide +kernel
theorem dL_law_193 : decode cL_law 193 = .ok (.iconst 0, 1) := by decide +kernel
theorem dL_law_194 : decode cL_law 194 = .ok (.ireturn, 1) := by decide +kernel
theorem dL_law_195 : decode cL_law 195 = .ok (.aload_n 1, 1) := by decide +kernel
theorem dL_law_196 : decode cL_law 196 = .ok (.invokevirtual 18, 3) := by decide +kernel
theorem dL_law_199 : decode cL_law 199 = .ok (.aload_n 2, 1) := by decide +kernel
theorem dL_law_200 : decode cL_law 200 = .ok (.invokevirtual 22, 3) := by decide +kernel
theorem dL_law_203 : decode cL_law 203 = .ok (.if_icmp .eq 943, 3) := by decide +kernel
theorem dL_law_206 : decode cL_law 206 = .ok (.iconst 0, 1) := by decide +kernel
theorem dL_law_207 : decode cL_law 207 = .ok (.ireturn, 1) := by decide +kernel
theorem dL_law_208 : decode cL_law 208 = .ok (.aload_n 1, 1) := by decide +kernel
theorem dL_law_209 : decode cL_law 209 = .ok (.aload_n 0, 1) := by decide +kernel
theorem dL_law_210 : decode cL_law 210 = .ok (.iload_n 3, 1) := by decide +kernel
theorem dL_law_211 : decode cL_law 211 = .ok (.iconst 1, 1) := by decide +kernel
theorem dL_law_212 : decode cL_law 212 = .ok (.iadd, 1) := by decide +kernel
theorem dL_law_213 : decode cL_law 213 = .ok (.iaload, 1) := by decide +kernel
theorem dL_law_214 : decode cL_law 214 = .ok (.aload_n 0, 1) := by decide +kernel
theorem dL_law_215 : decode cL_law 215 = .ok (.iload_n 3, 1) := by decide +kernel
theorem dL_law_216 : decode cL_law 216 = .ok (.iconst 2, 1) := by decide +kernel
theorem dL_law_217 : decode cL_law 217 = .ok (.iadd, 1) := by decide +kernel
theorem dL_law_218 : decode cL_law 218 = .ok (.iaload, 1) := by decide +kernel
theorem dL_law_219 : decode cL_law 219 = .ok (.invokevirtual 23, 3) := by decide +kernel
theorem dL_law_222 : decode cL_law 222 = .ok (.aload_n 2, 1) := by decide +kernel
theorem dL_law_223 : decode cL_law 223 = .ok (.aload_n 0, 1) := by decide +kernel
theorem dL_law_224 : decode cL_law 224 = .ok (.iload_n 3, 1) := by decide +kernel
theorem dL_law_225 : decode cL_law 225 = .ok (.iconst 1, 1) := by decide +kernel
theorem dL_law_226 : decode cL_law 226 = .ok (.iadd, 1) := by decide +kernel
theorem dL_law_227 : decode cL_law 227 = .ok (.iaload, 1) := by decide +kernel
theorem dL_law_228 : decode cL_law 228 = .ok (.aload_n 0, 1) := by decide +kernel
theorem dL_law_229 : decode cL_law 229 = .ok (.iload_n 3, 1) := by decide +kernel
theorem dL_law_230 : decode cL_law 230 = .ok (.iconst 2, 1) := by decide +kernel
theorem dL_law_231 : decode cL_law 231 = .ok (.iadd, 1) := by decide +kernel
theorem dL_law_232 : decode cL_law 232 = .ok (.iaload, 1) := by decide +kernel
theorem dL_law_233 : decode cL_law 233 = .ok (.invokevirtual 27, 3) := by decide +kernel
theorem dL_law_236 : decode cL_law 236 = .ok (.if_icmp .eq 910, 3) := by decide +kernel
theorem dL_law_239 : decode cL_law 239 = .ok (.iconst 0, 1) := by decide +kernel
theorem dL_law_240 : decode cL_law 240 = .ok (.ireturn, 1) := by decide +kernel
theorem dL_law_241 : decode cL_law 241 = .ok (.aload_n 1, 1) := by decide +kernel
theorem dL_law_242 : decode cL_law 242 = .ok (.invokevirtual 28, 3) := by decide +kernel
theorem dL_law_245 : decode cL_law 245 = .ok (.aload_n 2, 1) := by decide +kernel
theorem dL_law_246 : decode cL_law 246 = .ok (.invokevirtual 31, 3) := by decide +kernel
theorem dL_law_249 : decode cL_law 249 = .ok (.if_icmp .eq 897, 3) := by decide +kernel
theorem dL_law_252 : decode cL_law 252 = .ok (.iconst 0, 1) := by decide +kernel
theorem dL_law_253 : decode cL_law 253 = .ok (.ireturn, 1) := by decide +kernel
theorem dL_law_254 : decode cL_law 254 = .ok (.aload_n 1, 1) := by decide +kernel
theorem dL_law_255 : decode cL_law 255 = .ok (.aload_n 0, 1) := by decide +kernel
theorem dL_law_256 : decode cL_law 256 = .ok (.iload_n 3, 1) := by decide +kernel
theorem dL_law_257 : decode cL_law 257 = .ok (.iconst 1, 1) := by decide +kernel
theorem dL_law_258 : decode cL_law 258 = .ok (.iadd, 1) := by decide +kernel
theorem dL_law_259 : decode cL_law 259 = .ok (.iaload, 1) := by decide +kernel
theorem dL_law_260 : decode cL_law 260 = .ok (.invokevirtual 32, 3) := by decide +kernel
theorem dL_law_263 : decode cL_law 263 = .ok (.aload_n 2, 1) := by decide +kernel
theorem dL_law_264 : decode cL_law 264 = .ok (.aload_n 0, 1) := by decide +kernel
theorem dL_law_265 : decode cL_law 265 = .ok (.iload_n 3, 1) := by decide +kernel
theorem dL_law_266 : decode cL_law 266 = .ok (.iconst 1, 1) := by decide +kernel
theorem dL_law_267 : decode cL_law 267 = .ok (.iadd, 1) := by decide +kernel
theorem dL_law_268 : decode cL_law 268 = .ok (.iaload, 1) := by decide +kernel
theorem dL_law_269 : decode cL_law 269 = .ok (.invokevirtual 35, 3) := by decide +kernel
theorem dL_law_272 : decode cL_law 272 = .ok (.if_icmp .eq 874, 3) := by decide +kernel
theorem dL_law_275 : decode cL_law 275 = .ok (.iconst 0, 1) := by decide +kernel
theorem dL_law_276 : decode cL_law 276 = .ok (.ireturn, 1) := by decide +kernel
theorem dL_law_277 : decode cL_law 277 = .ok (.aload_n 1, 1) := by decide +kernel
theorem dL_law_278 : decode cL_law 278 = .ok (.aload_n 0, 1) := by decide +kernel
theorem dL_law_279 : decode cL_law 279 = .ok (.iload_n 3, 1) := by decide +kernel
theorem dL_law_280 : decode cL_law 280 = .ok (.iconst 1, 1) := by decide +kernel
theorem dL_law_281 : decode cL_law 281 = .ok (.iadd, 1) := by decide +kernel
theorem dL_law_282 : decode cL_law 282 = .ok (.iaload, 1) := by decide +kernel
theorem dL_law_283 : decode cL_law 283 = .ok (.aload_n 0, 1) := by decide +kernel
theorem dL_law_284 : decode cL_law 284 = .ok (.iload_n 3, 1) := by decide +kernel
theorem dL_law_285 : decode cL_law 285 = .ok (.iconst 2, 1) := by decide +kernel
theorem dL_law_286 : decode cL_law 286 = .ok (.iadd, 1) := by decide +kernel
theorem dL_law_287 : decode cL_law 287 = .ok (.iaload, 1) := by decide +kernel
theorem dL_law_288 : decode cL_law 288 = .ok (.invokevirtual 36, 3) := by decide +kernel
theorem dL_law_291 : decode cL_law 291 = .ok (.aload_n 2, 1) := by decide +kernel
theorem dL_law_292 : decode cL_law 292 = .ok (.aload_n 0, 1) := by decide +kernel
theorem dL_law_293 : decode cL_law 293 = .ok (.iload_n 3, 1) := by decide +kernel
theorem dL_law_294 : decode cL_law 294 = .ok (.iconst 1, 1) := by decide +kernel
theorem dL_law_295 : decode cL_law 295 = .ok (.iadd, 1) := by decide +kernel
theorem dL_law_296 : decode cL_law 296 = .ok (.iaload, 1) := by decide +kernel
theorem dL_law_297 : decode cL_law 297 = .ok (.aload_n 0, 1) := by decide +kernel
theorem dL_law_298 : decode cL_law 298 = .ok (.iload_n 3, 1) := by decide +kernel
theorem dL_law_299 : decode cL_law 299 = .ok (.iconst 2, 1) := by decide +kernel
theorem dL_law_300 : decode cL_law 300 = .ok (.iadd, 1) := by decide +kernel
theorem dL_law_301 : decode cL_law 301 = .ok (.iaload, 1) := by decide +kernel
theorem dL_law_302 : decode cL_law 302 = .ok (.invokevirtual 39, 3) := by decide +kernel
theorem dL_law_305 : decode cL_law 305 = .ok (.if_icmp .eq 841, 3) := by decide +kernel
theorem dL_law_308 : decode cL_law 308 = .ok (.iconst 0, 1) := by decide +kernel
theorem dL_law_309 : decode cL_law 309 = .ok (.ireturn, 1) := by decide +kernel
theorem dL_law_310 : decode cL_law 310 = .ok (.aload_n 1, 1) := by decide +kernel
theorem dL_law_311 : decode cL_law 311 = .ok (.aload_n 0, 1) := by decide +kernel
theorem dL_law_312 : decode cL_law 312 = .ok (.iload_n 3, 1) := by decide +kernel
theorem dL_law_313 : decode cL_law 313 = .ok (.iconst 1, 1) := by decide +kernel
theorem dL_law_314 : decode cL_law 314 = .ok (.iadd, 1) := by decide +kernel
theorem dL_law_315 : decode cL_law 315 = .ok (.iaload, 1) := by decide +kernel
theorem dL_law_316 : decode cL_law 316 = .ok (.invokevirtual 40, 3) := by decide +kernel
theorem dL_law_319 : decode cL_law 319 = .ok (.aload_n 2, 1) := by decide +kernel
theorem dL_law_320 : decode cL_law 320 = .ok (.aload_n 0, 1) := by decide +kernel
theorem dL_law_321 : decode cL_law 321 = .ok (.iload_n 3, 1) := by decide +kernel
theorem dL_law_322 : decode cL_law 322 = .ok (.iconst 1, 1) := by decide +kernel
theorem dL_law_323 : decode cL_law 323 = .ok (.iadd, 1) := by decide +kernel
theorem dL_law_324 : decode cL_law 324 = .ok (.iaload, 1) := by decide +kernel
theorem dL_law_325 : decode cL_law 325 = .ok (.invokevirtual 43, 3) := by decide +kernel
theorem dL_law_328 : decode cL_law 328 = .ok (.if_icmp .eq 818, 3) := by decide +kernel
theorem dL_law_331 : decode cL_law 331 = .ok (.iconst 0, 1) := by decide +kernel
theorem dL_law_332 : decode cL_law 332 = .ok (.ireturn, 1) := by decide +kernel
theorem dL_law_333 : decode cL_law 333 = .ok (.aload_n 1, 1) := by decide +kernel
theorem dL_law_334 : decode cL_law 334 = .ok (.aload_n 0, 1) := by decide +kernel
theorem dL_law_335 : decode cL_law 335 = .ok (.iload_n 3, 1) := by decide +kernel
theorem dL_law_336 : decode cL_law 336 = .ok (.iconst 1, 1) := by decide +kernel
theorem dL_law_337 : decode cL_law 337 = .ok (.iadd, 1) := by decide +kernel
theorem dL_law_338 : decode cL_law 338 = .ok (.iaload, 1) := by decide +kernel
theorem dL_law_339 : decode cL_law 339 = .ok (.invokevirtual 44, 3) := by decide +kernel
theorem dL_law_342 : decode cL_law 342 = .ok (.aload_n 2, 1) := by decide +kernel
theorem dL_law_343 : decode cL_law 343 = .ok (.aload_n 0, 1) := by decide +kernel
theorem dL_law_344 : decode cL_law 344 = .ok (.iload_n 3, 1) := by decide +kernel
theorem dL_law_345 : decode cL_law 345 = .ok (.iconst 1, 1) := by decide +kernel
theorem dL_law_346 : decode cL_law 346 = .ok (.iadd, 1) := by decide +kernel
theorem dL_law_347 : decode cL_law 347 = .ok (.iaload, 1) := by decide +kernel
theorem dL_law_348 : decode cL_law 348 = .ok (.invokevirtual 47, 3) := by decide +kernel
theorem dL_law_351 : decode cL_law 351 = .ok (.if_icmp .eq 795, 3) := by decide +kernel
theorem dL_law_354 : decode cL_law 354 = .ok (.iconst 0, 1) := by decide +kernel
theorem dL_law_355 : decode cL_law 355 = .ok (.ireturn, 1) := by decide +kernel
theorem dL_law_356 : decode cL_law 356 = .ok (.aload_n 1, 1) := by decide +kernel
theorem dL_law_357 : decode cL_law 357 = .ok (.aload_n 0, 1) := by decide +kernel
theorem dL_law_358 : decode cL_law 358 = .ok (.iload_n 3, 1) := by decide +kernel
theorem dL_law_359 : decode cL_law 359 = .ok (.iconst 1, 1) := by decide +kernel
theorem dL_law_360 : decode cL_law 360 = .ok (.iadd, 1) := by decide +kernel
theorem dL_law_361 : decode cL_law 361 = .ok (.iaload, 1) := by decide +kernel
theorem dL_law_362 : decode cL_law 362 = .ok (.aload_n 0, 1) := by decide +kernel
theorem dL_law_363 : decode cL_law 363 = .ok (.iload_n 3, 1) := by decide +kernel
theorem dL_law_364 : decode cL_law 364 = .ok (.iconst 2, 1) := by decide +kernel
theorem dL_law_365 : decode cL_law 365 = .ok (.iadd, 1) := by decide +kernel
theorem dL_law_366 : decode cL_law 366 = .ok (.iaload, 1) := by decide +kernel
theorem dL_law_367 : decode cL_law 367 = .ok (.invokevirtual 48, 3) := by decide +kernel
theorem dL_law_370 : decode cL_law 370 = .ok (.aload_n 2, 1) := by decide +kernel
theorem dL_law_371 : decode cL_law 371 = .ok (.aload_n 0, 1) := by decide +kernel
theorem dL_law_372 : decode cL_law 372 = .ok (.iload_n 3, 1) := by decide +kernel
theorem dL_law_373 : decode cL_law 373 = .ok (.iconst 1, 1) := by decide +kernel
theorem dL_law_374 : decode cL_law 374 = .ok (.iadd, 1) := by decide +kernel
theorem dL_law_375 : decode cL_law 375 = .ok (.iaload, 1) := by decide +kernel
theorem dL_law_376 : decode cL_law 376 = .ok (.aload_n 0, 1) := by decide +kernel
theorem dL_law_377 : decode cL_law 377 = .ok (.iload_n 3, 1) := by decide +kernel
theorem dL_law_378 : decode cL_law 378 = .ok (.iconst 2, 1) := by decide +kernel
theorem dL_law_379 : decode cL_law 379 = .ok (.iadd, 1) := by decide +kernel
theorem dL_law_380 : decode cL_law 380 = .ok (.iaload, 1) := by decide +kernel
theorem dL_law_381 : decode cL_law 381 = .ok (.invokevirtual 51, 3) := by decide +kernel
theorem dL_law_384 : decode cL_law 384 = .ok (.if_icmp .eq 762, 3) := by decide +kernel
theorem dL_law_387 : decode cL_law 387 = .ok (.iconst 0, 1) := by decide +kernel
theorem dL_law_388 : decode cL_law 388 = .ok (.ireturn, 1) := by decide +kernel
theorem dL_law_389 : decode cL_law 389 = .ok (.aload_n 1, 1) := by decide +kernel
theorem dL_law_390 : decode cL_law 390 = .ok (.aload_n 0, 1) := by decide +kernel
theorem dL_law_391 : decode cL_law 391 = .ok (.iload_n 3, 1) := by decide +kernel
theorem dL_law_392 : decode cL_law 392 = .ok (.iconst 1, 1) := by decide +kernel
theorem dL_law_393 : decode cL_law 393 = .ok (.iadd, 1) := by decide +kernel
theorem dL_law_394 : decode cL_law 394 = .ok (.iaload, 1) := by decide +kernel
theorem dL_law_395 : decode cL_law 395 = .ok (.aload_n 0, 1) := by decide +kernel
theorem dL_law_396 : decode cL_law 396 = .ok (.iload_n 3, 1) := by decide +kernel
theorem dL_law_397 : decode cL_law 397 = .ok (.iconst 2, 1) := by decide +kernel
theorem dL_law_398 : decode cL_law 398 = .ok (.iadd, 1) := by decide +kernel
theorem dL_law_399 : decode cL_law 399 = .ok (.iaload, 1) := by decide +kernel
theorem dL_law_400 : decode cL_law 400 = .ok (.invokevirtual 52, 3) := by decide +kernel
theorem dL_law_403 : decode cL_law 403 = .ok (.aload_n 2, 1) := by decide +kernel
theorem dL_law_404 : decode cL_law 404 = .ok (.aload_n 0, 1) := by decide +kernel
theorem dL_law_405 : decode cL_law 405 = .ok (.iload_n 3, 1) := by decide +kernel
theorem dL_law_406 : decode cL_law 406 = .ok (.iconst 1, 1) := by decide +kernel
theorem dL_law_407 : decode cL_law 407 = .ok (.iadd, 1) := by decide +kernel
theorem dL_law_408 : decode cL_law 408 = .ok (.iaload, 1) := by decide +kernel
theorem dL_law_409 : decode cL_law 409 = .ok (.aload_n 0, 1) := by decide +kernel
theorem dL_law_410 : decode cL_law 410 = .ok (.iload_n 3, 1) := by decide +kernel
theorem dL_law_411 : decode cL_law 411 = .ok (.iconst 2, 1) := by decide +kernel
theorem dL_law_412 : decode cL_law 412 = .ok (.iadd, 1) := by decide +kernel
theorem dL_law_413 : decode cL_law 413 = .ok (.iaload, 1) := by decide +kernel
theorem dL_law_414 : decode cL_law 414 = .ok (.invokevirtual 55, 3) := by decide +kernel
theorem dL_law_417 : decode cL_law 417 = .ok (.if_icmp .eq 729, 3) := by decide +kernel
theorem dL_law_420 : decode cL_law 420 = .ok (.iconst 0, 1) := by decide +kernel
theorem dL_law_421 : decode cL_law 421 = .ok (.ireturn, 1) := by decide +kernel
theorem dL_law_422 : decode cL_law 422 = .ok (.aload_n 1, 1) := by decide +kernel
theorem dL_law_423 : decode cL_law 423 = .ok (.aload_n 0, 1) := by decide +kernel
theorem dL_law_424 : decode cL_law 424 = .ok (.iload_n 3, 1) := by decide +kernel
theorem dL_law_425 : decode cL_law 425 = .ok (.iconst 1, 1) := by decide +kernel
theorem dL_law_426 : decode cL_law 426 = .ok (.iadd, 1) := by decide +kernel
theorem dL_law_427 : decode cL_law 427 = .ok (.iaload, 1) := by decide +kernel
theorem dL_law_428 : decode cL_law 428 = .ok (.invokevirtual 56, 3) := by decide +kernel
theorem dL_law_431 : decode cL_law 431 = .ok (.aload_n 2, 1) := by decide +kernel
theorem dL_law_432 : decode cL_law 432 = .ok (.aload_n 0, 1) := by decide +kernel
theorem dL_law_433 : decode cL_law 433 = .ok (.iload_n 3, 1) := by decide +kernel
theorem dL_law_434 : decode cL_law 434 = .ok (.iconst 1, 1) := by decide +kernel
theorem dL_law_435 : decode cL_law 435 = .ok (.iadd, 1) := by decide +kernel
theorem dL_law_436 : decode cL_law 436 = .ok (.iaload, 1) := by decide +kernel
theorem dL_law_437 : decode cL_law 437 = .ok (.invokevirtual 59, 3) := by decide +kernel
theorem dL_law_440 : decode cL_law 440 = .ok (.if_icmp .eq 706, 3) := by decide +kernel
theorem dL_law_443 : decode cL_law 443 = .ok (.iconst 0, 1) := by decide +kernel
theorem dL_law_444 : decode cL_law 444 = .ok (.ireturn, 1) := by decide +kernel
theorem dL_law_445 : decode cL_law 445 = .ok (.aload_n 1, 1) := by decide +kernel
theorem dL_law_446 : decode cL_law 446 = .ok (.aload_n 0, 1) := by decide +kernel
theorem dL_law_447 : decode cL_law 447 = .ok (.iload_n 3, 1) := by decide +kernel
theorem dL_law_448 : decode cL_law 448 = .ok (.iconst 1, 1) := by decide +kernel
theorem dL_law_449 : decode cL_law 449 = .ok (.iadd, 1) := by decide +kernel
theorem dL_law_450 : decode cL_law 450 = .ok (.iaload, 1) := by decide +kernel
theorem dL_law_451 : decode cL_law 451 = .ok (.aload_n 0, 1) := by decide +kernel
theorem dL_law_452 : decode cL_law 452 = .ok (.iload_n 3, 1) := by decide +kernel
theorem dL_law_453 : decode cL_law 453 = .ok (.iconst 2, 1) := by decide +kernel
theorem dL_law_454 : decode cL_law 454 = .ok (.iadd, 1) := by decide +kernel
theorem dL_law_455 : decode cL_law 455 = .ok (.iaload, 1) := by decide +kernel
theorem dL_law_456 : decode cL_law 456 = .ok (.invokevirtual 60, 3) := by decide +kernel
theorem dL_law_459 : decode cL_law 459 = .ok (.aload_n 2, 1) := by decide +kernel
theorem dL_law_460 : decode cL_law 460 = .ok (.aload_n 0, 1) := by decide +kernel
theorem dL_law_461 : decode cL_law 461 = .ok (.iload_n 3, 1) := by decide +kernel
theorem dL_law_462 : decode cL_law 462 = .ok (.iconst 1, 1) := by decide +kernel
theorem dL_law_463 : decode cL_law 463 = .ok (.iadd, 1) := by decide +kernel
theorem dL_law_464 : decode cL_law 464 = .ok (.iaload, 1) := by decide +kernel
theorem dL_law_465 : decode cL_law 465 = .ok (.aload_n 0, 1) := by decide +kernel
theorem dL_law_466 : decode cL_law 466 = .ok (.iload_n 3, 1) := by decide +kernel
theorem dL_law_467 : decode cL_law 467 = .ok (.iconst 2, 1) := by decide +kernel
theorem dL_law_468 : decode cL_law 468 = .ok (.iadd, 1) := by decide +kernel
theorem dL_law_469 : decode cL_law 469 = .ok (.iaload, 1) := by decide +kernel
theorem dL_law_470 : decode cL_law 470 = .ok (.invokevirtual 63, 3) := by decide +kernel
theorem dL_law_473 : decode cL_law 473 = .ok (.if_icmp .eq 673, 3) := by decide +kernel
theorem dL_law_476 : decode cL_law 476 = .ok (.iconst 0, 1) := by decide +kernel
theorem dL_law_477 : decode cL_law 477 = .ok (.ireturn, 1) := by decide +kernel
theorem dL_law_478 : decode cL_law 478 = .ok (.aload_n 1, 1) := by decide +kernel
theorem dL_law_479 : decode cL_law 479 = .ok (.aload_n 0, 1) := by decide +kernel
theorem dL_law_480 : decode cL_law 480 = .ok (.iload_n 3, 1) := by decide +kernel
theorem dL_law_481 : decode cL_law 481 = .ok (.iconst 1, 1) := by decide +kernel
theorem dL_law_482 : decode cL_law 482 = .ok (.iadd, 1) := by decide +kernel
theorem dL_law_483 : decode cL_law 483 = .ok (.iaload, 1) := by decide +kernel
theorem dL_law_484 : decode cL_law 484 = .ok (.invokevirtual 64, 3) := by decide +kernel
theorem dL_law_487 : decode cL_law 487 = .ok (.aload_n 2, 1) := by decide +kernel
theorem dL_law_488 : decode cL_law 488 = .ok (.aload_n 0, 1) := by decide +kernel
theorem dL_law_489 : decode cL_law 489 = .ok (.iload_n 3, 1) := by decide +kernel
theorem dL_law_490 : decode cL_law 490 = .ok (.iconst 1, 1) := by decide +kernel
theorem dL_law_491 : decode cL_law 491 = .ok (.iadd, 1) := by decide +kernel
theorem dL_law_492 : decode cL_law 492 = .ok (.iaload, 1) := by decide +kernel
theorem dL_law_493 : decode cL_law 493 = .ok (.invokevirtual 67, 3) := by decide +kernel
theorem dL_law_496 : decode cL_law 496 = .ok (.if_icmp .eq 650, 3) := by decide +kernel
theorem dL_law_499 : decode cL_law 499 = .ok (.iconst 0, 1) := by decide +kernel
theorem dL_law_500 : decode cL_law 500 = .ok (.ireturn, 1) := by decide +kernel
theorem dL_law_501 : decode cL_law 501 = .ok (.aload_n 1, 1) := by decide +kernel
theorem dL_law_502 : decode cL_law 502 = .ok (.aload_n 0, 1) := by decide +kernel
theorem dL_law_503 : decode cL_law 503 = .ok (.iload_n 3, 1) := by decide +kernel
theorem dL_law_504 : decode cL_law 504 = .ok (.iconst 1, 1) := by decide +kernel
theorem dL_law_505 : decode cL_law 505 = .ok (.iadd, 1) := by decide +kernel
theorem dL_law_506 : decode cL_law 506 = .ok (.iaload, 1) := by decide +kernel
theorem dL_law_507 : decode cL_law 507 = .ok (.aload_n 0, 1) := by decide +kernel
theorem dL_law_508 : decode cL_law 508 = .ok (.iload_n 3, 1) := by decide +kernel
theorem dL_law_509 : decode cL_law 509 = .ok (.iconst 2, 1) := by decide +kernel
theorem dL_law_510 : decode cL_law 510 = .ok (.iadd, 1) := by decide +kernel
theorem dL_law_511 : decode cL_law 511 = .ok (.iaload, 1) := by decide +kernel
theorem dL_law_512 : decode cL_law 512 = .ok (.aload_n 0, 1) := by decide +kernel
theorem dL_law_513 : decode cL_law 513 = .ok (.iload_n 3, 1) := by decide +kernel
theorem dL_law_514 : decode cL_law 514 = .ok (.iconst 3, 1) := by decide +kernel
theorem dL_law_515 : decode cL_law 515 = .ok (.iadd, 1) := by decide +kernel
theorem dL_law_516 : decode cL_law 516 = .ok (.iaload, 1) := by decide +kernel
theorem dL_law_517 : decode cL_law 517 = .ok (.invokevirtual 68, 3) := by decide +kernel
theorem dL_law_520 : decode cL_law 520 = .ok (.aload_n 2, 1) := by decide +kernel
theorem dL_law_521 : decode cL_law 521 = .ok (.aload_n 0, 1) := by decide +kernel
theorem dL_law_522 : decode cL_law 522 = .ok (.iload_n 3, 1) := by decide +kernel
theorem dL_law_523 : decode cL_law 523 = .ok (.iconst 1, 1) := by decide +kernel
theorem dL_law_524 : decode cL_law 524 = .ok (.iadd, 1) := by decide +kernel
theorem dL_law_525 : decode cL_law 525 = .ok (.iaload, 1) := by decide +kernel
theorem dL_law_526 : decode cL_law 526 = .ok (.aload_n 0, 1) := by decide +kernel
theorem dL_law_527 : decode cL_law 527 = .ok (.iload_n 3, 1) := by decide +kernel
theorem dL_law_528 : decode cL_law 528 = .ok (.iconst 2, 1) := by decide +kernel
theorem dL_law_529 : decode cL_law 529 = .ok (.iadd, 1) := by decide +kernel
theorem dL_law_530 : decode cL_law 530 = .ok (.iaload, 1) := by decide +kernel
theorem dL_law_531 : decode cL_law 531 = .ok (.aload_n 0, 1) := by decide +kernel
theorem dL_law_532 : decode cL_law 532 = .ok (.iload_n 3, 1) := by decide +kernel
theorem dL_law_533 : decode cL_law 533 = .ok (.iconst 3, 1) := by decide +kernel
theorem dL_law_534 : decode cL_law 534 = .ok (.iadd, 1) := by decide +kernel
theorem dL_law_535 : decode cL_law 535 = .ok (.iaload, 1) := by decide +kernel
theorem dL_law_536 : decode cL_law 536 = .ok (.invokevirtual 72, 3) := by decide +kernel
theorem dL_law_539 : decode cL_law 539 = .ok (.if_icmp .eq 607, 3) := by decide +kernel
theorem dL_law_542 : decode cL_law 542 = .ok (.iconst 0, 1) := by decide +kernel
theorem dL_law_543 : decode cL_law 543 = .ok (.ireturn, 1) := by decide +kernel
theorem dL_law_544 : decode cL_law 544 = .ok (.aload_n 1, 1) := by decide +kernel
theorem dL_law_545 : decode cL_law 545 = .ok (.aload_n 0, 1) := by decide +kernel
theorem dL_law_546 : decode cL_law 546 = .ok (.iload_n 3, 1) := by decide +kernel
theorem dL_law_547 : decode cL_law 547 = .ok (.iconst 1, 1) := by decide +kernel
theorem dL_law_548 : decode cL_law 548 = .ok (.iadd, 1) := by decide +kernel
theorem dL_law_549 : decode cL_law 549 = .ok (.iaload, 1) := by decide +kernel
theorem dL_law_550 : decode cL_law 550 = .ok (.invokevirtual 73, 3) := by decide +kernel
theorem dL_law_553 : decode cL_law 553 = .ok (.aload_n 2, 1) := by decide +kernel
theorem dL_law_554 : decode cL_law 554 = .ok (.aload_n 0, 1) := by decide +kernel
theorem dL_law_555 : decode cL_law 555 = .ok (.iload_n 3, 1) := by decide +kernel
theorem dL_law_556 : decode cL_law 556 = .ok (.iconst 1, 1) := by decide +kernel
theorem dL_law_557 : decode cL_law 557 = .ok (.iadd, 1) := by decide +kernel
theorem dL_law_558 : decode cL_law 558 = .ok (.iaload, 1) := by decide +kernel
theorem dL_law_559 : decode cL_law 559 = .ok (.invokevirtual 76, 3) := by decide +kernel
theorem dL_law_562 : decode cL_law 562 = .ok (.if_icmp .eq 584, 3) := by decide +kernel
theorem dL_law_565 : decode cL_law 565 = .ok (.iconst 0, 1) := by decide +kernel
theorem dL_law_566 : decode cL_law 566 = .ok (.ireturn, 1) := by decide +kernel
theorem dL_law_567 : decode cL_law 567 = .ok (.aload_n 1, 1) := by decide +kernel
theorem dL_law_568 : decode cL_law 568 = .ok (.aload_n 0, 1) := by decide +kernel
theorem dL_law_569 : decode cL_law 569 = .ok (.iload_n 3, 1) := by decide +kernel
theorem dL_law_570 : decode cL_law 570 = .ok (.iconst 1, 1) := by decide +kernel
theorem dL_law_571 : decode cL_law 571 = .ok (.iadd, 1) := by decide +kernel
theorem dL_law_572 : decode cL_law 572 = .ok (.iaload, 1) := by decide +kernel
theorem dL_law_573 : decode cL_law 573 = .ok (.invokevirtual 77, 3) := by decide +kernel
theorem dL_law_576 : decode cL_law 576 = .ok (.aload_n 2, 1) := by decide +kernel
theorem dL_law_577 : decode cL_law 577 = .ok (.aload_n 0, 1) := by decide +kernel
theorem dL_law_578 : decode cL_law 578 = .ok (.iload_n 3, 1) := by decide +kernel
theorem dL_law_579 : decode cL_law 579 = .ok (.iconst 1, 1) := by decide +kernel
theorem dL_law_580 : decode cL_law 580 = .ok (.iadd, 1) := by decide +kernel
theorem dL_law_581 : decode cL_law 581 = .ok (.iaload, 1) := by decide +kernel
theorem dL_law_582 : decode cL_law 582 = .ok (.invokevirtual 80, 3) := by decide +kernel
theorem dL_law_585 : decode cL_law 585 = .ok (.if_icmp .eq 561, 3) := by decide +kernel
theorem dL_law_588 : decode cL_law 588 = .ok (.iconst 0, 1) := by decide +kernel
theorem dL_law_589 : decode cL_law 589 = .ok (.ireturn, 1) := by decide +kernel
theorem dL_law_590 : decode cL_law 590 = .ok (.aload_n 1, 1) := by decide +kernel
theorem dL_law_591 : decode cL_law 591 = .ok (.aload_n 0, 1) := by decide +kernel
theorem dL_law_592 : decode cL_law 592 = .ok (.iload_n 3, 1) := by decide +kernel
theorem dL_law_593 : decode cL_law 593 = .ok (.iconst 1, 1) := by decide +kernel
theorem dL_law_594 : decode cL_law 594 = .ok (.iadd, 1) := by decide +kernel
theorem dL_law_595 : decode cL_law 595 = .ok (.iaload, 1) := by decide +kernel
theorem dL_law_596 : decode cL_law 596 = .ok (.aload_n 0, 1) := by decide +kernel
theorem dL_law_597 : decode cL_law 597 = .ok (.iload_n 3, 1) := by decide +kernel
theorem dL_law_598 : decode cL_law 598 = .ok (.iconst 2, 1) := by decide +kernel
theorem dL_law_599 : decode cL_law 599 = .ok (.iadd, 1) := by decide +kernel
theorem dL_law_600 : decode cL_law 600 = .ok (.iaload, 1) := by decide +kernel
theorem dL_law_601 : decode cL_law 601 = .ok (.invokevirtual 81, 3) := by decide +kernel
theorem dL_law_604 : decode cL_law 604 = .ok (.aload_n 2, 1) := by decide +kernel
theorem dL_law_605 : decode cL_law 605 = .ok (.aload_n 0, 1) := by decide +kernel
theorem dL_law_606 : decode cL_law 606 = .ok (.iload_n 3, 1) := by decide +kernel
theorem dL_law_607 : decode cL_law 607 = .ok (.iconst 1, 1) := by decide +kernel
theorem dL_law_608 : decode cL_law 608 = .ok (.iadd, 1) := by decide +kernel
theorem dL_law_609 : decode cL_law 609 = .ok (.iaload, 1) := by decide +kernel
theorem dL_law_610 : decode cL_law 610 = .ok (.aload_n 0, 1) := by decide +kernel
theorem dL_law_611 : decode cL_law 611 = .ok (.iload_n 3, 1) := by decide +kernel
theorem dL_law_612 : decode cL_law 612 = .ok (.iconst 2, 1) := by decide +kernel
theorem dL_law_613 : decode cL_law 613 = .ok (.iadd, 1) := by decide +kernel
theorem dL_law_614 : decode cL_law 614 = .ok (.iaload, 1) := by decide +kernel
theorem dL_law_615 : decode cL_law 615 = .ok (.invokevirtual 84, 3) := by decide +kernel
theorem dL_law_618 : decode cL_law 618 = .ok (.if_icmp .eq 528, 3) := by decide +kernel
theorem dL_law_621 : decode cL_law 621 = .ok (.iconst 0, 1) := by decide +kernel
theorem dL_law_622 : decode cL_law 622 = .ok (.ireturn, 1) := by decide +kernel
theorem dL_law_623 : decode cL_law 623 = .ok (.aload_n 1, 1) := by decide +kernel
theorem dL_law_624 : decode cL_law 624 = .ok (.aload_n 0, 1) := by decide +kernel
theorem dL_law_625 : decode cL_law 625 = .ok (.iload_n 3, 1) := by decide +kernel
theorem dL_law_626 : decode cL_law 626 = .ok (.iconst 1, 1) := by decide +kernel
theorem dL_law_627 : decode cL_law 627 = .ok (.iadd, 1) := by decide +kernel
theorem dL_law_628 : decode cL_law 628 = .ok (.iaload, 1) := by decide +kernel
theorem dL_law_629 : decode cL_law 629 = .ok (.aload_n 0, 1) := by decide +kernel
theorem dL_law_630 : decode cL_law 630 = .ok (.iload_n 3, 1) := by decide +kernel
theorem dL_law_631 : decode cL_law 631 = .ok (.iconst 2, 1) := by decide +kernel
theorem dL_law_632 : decode cL_law 632 = .ok (.iadd, 1) := by decide +kernel
theorem dL_law_633 : decode cL_law 633 = .ok (.iaload, 1) := by decide +kernel
theorem dL_law_634 : decode cL_law 634 = .ok (.invokevirtual 85, 3) := by decide +kernel
theorem dL_law_637 : decode cL_law 637 = .ok (.aload_n 2, 1) := by decide +kernel
theorem dL_law_638 : decode cL_law 638 = .ok (.aload_n 0, 1) := by decide +kernel
theorem dL_law_639 : decode cL_law 639 = .ok (.iload_n 3, 1) := by decide +kernel
theorem dL_law_640 : decode cL_law 640 = .ok (.iconst 1, 1) := by decide +kernel
theorem dL_law_641 : decode cL_law 641 = .ok (.iadd, 1) := by decide +kernel
theorem dL_law_642 : decode cL_law 642 = .ok (.iaload, 1) := by decide +kernel
theorem dL_law_643 : decode cL_law 643 = .ok (.aload_n 0, 1) := by decide +kernel
theorem dL_law_644 : decode cL_law 644 = .ok (.iload_n 3, 1) := by decide +kernel
theorem dL_law_645 : decode cL_law 645 = .ok (.iconst 2, 1) := by decide +kernel
theorem dL_law_646 : decode cL_law 646 = .ok (.iadd, 1) := by decide +kernel
theorem dL_law_647 : decode cL_law 647 = .ok (.iaload, 1) := by decide +kernel
theorem dL_law_648 : decode cL_law 648 = .ok (.invokevirtual 88, 3) := by decide +kernel
theorem dL_law_651 : decode cL_law 651 = .ok (.if_icmp .eq 495, 3) := by decide +kernel
theorem dL_law_654 : decode cL_law 654 = .ok (.iconst 0, 1) := by decide +kernel
theorem dL_law_655 : decode cL_law 655 = .ok (.ireturn, 1) := by decide +kernel
theorem dL_law_656 : decode cL_law 656 = .ok (.aload_n 1, 1) := by decide +kernel
theorem dL_law_657 : decode cL_law 657 = .ok (.aload_n 0, 1) := by decide +kernel
theorem dL_law_658 : decode cL_law 658 = .ok (.iload_n 3, 1) := by decide +kernel
theorem dL_law_659 : decode cL_law 659 = .ok (.iconst 1, 1) := by decide +kernel
theorem dL_law_660 : decode cL_law 660 = .ok (.iadd, 1) := by decide +kernel
theorem dL_law_661 : decode cL_law 661 = .ok (.iaload, 1) := by decide +kernel
theorem dL_law_662 : decode cL_law 662 = .ok (.aload_n 0, 1) := by decide +kernel
theorem dL_law_663 : decode cL_law 663 = .ok (.iload_n 3, 1) := by decide +kernel
theorem dL_law_664 : decode cL_law 664 = .ok (.iconst 2, 1) := by decide +kernel
theorem dL_law_665 : decode cL_law 665 = .ok (.iadd, 1) := by decide +kernel
theorem dL_law_666 : decode cL_law 666 = .ok (.iaload, 1) := by decide +kernel
theorem dL_law_667 : decode cL_law 667 = .ok (.aload_n 0, 1) := by decide +kernel
theorem dL_law_668 : decode cL_law 668 = .ok (.iload_n 3, 1) := by decide +kernel
theorem dL_law_669 : decode cL_law 669 = .ok (.iconst 3, 1) := by decide +kernel
theorem dL_law_670 : decode cL_law 670 = .ok (.iadd, 1) := by decide +kernel
theorem dL_law_671 : decode cL_law 671 = .ok (.iaload, 1) := by decide +kernel
theorem dL_law_672 : decode cL_law 672 = .ok (.invokevirtual 89, 3) := by decide +kernel
theorem dL_law_675 : decode cL_law 675 = .ok (.aload_n 2, 1) := by decide +kernel
theorem dL_law_676 : decode cL_law 676 = .ok (.aload_n 0, 1) := by decide +kernel
theorem dL_law_677 : decode cL_law 677 = .ok (.iload_n 3, 1) := by decide +kernel
theorem dL_law_678 : decode cL_law 678 = .ok (.iconst 1, 1) := by decide +kernel
theorem dL_law_679 : decode cL_law 679 = .ok (.iadd, 1) := by decide +kernel
theorem dL_law_680 : decode cL_law 680 = .ok (.iaload, 1) := by decide +kernel
theorem dL_law_681 : decode cL_law 681 = .ok (.aload_n 0, 1) := by decide +kernel
theorem dL_law_682 : decode cL_law 682 = .ok (.iload_n 3, 1) := by decide +kernel
theorem dL_law_683 : decode cL_law 683 = .ok (.iconst 2, 1) := by decide +kernel
theorem dL_law_684 : decode cL_law 684 = .ok (.iadd, 1) := by decide +kernel
theorem dL_law_685 : decode cL_law 685 = .ok (.iaload, 1) := by decide +kernel
theorem dL_law_686 : decode cL_law 686 = .ok (.aload_n 0, 1) := by decide +kernel
theorem dL_law_687 : decode cL_law 687 = .ok (.iload_n 3, 1) := by decide +kernel
theorem dL_law_688 : decode cL_law 688 = .ok (.iconst 3, 1) := by decide +kernel
theorem dL_law_689 : decode cL_law 689 = .ok (.iadd, 1) := by decide +kernel
theorem dL_law_690 : decode cL_law 690 = .ok (.iaload, 1) := by decide +kernel
theorem dL_law_691 : decode cL_law 691 = .ok (.invokevirtual 92, 3) := by decide +kernel
theorem dL_law_694 : decode cL_law 694 = .ok (.if_icmp .eq 452, 3) := by decide +kernel
theorem dL_law_697 : decode cL_law 697 = .ok (.iconst 0, 1) := by decide +kernel
theorem dL_law_698 : decode cL_law 698 = .ok (.ireturn, 1) := by decide +kernel
theorem dL_law_699 : decode cL_law 699 = .ok (.aload_n 1, 1) := by decide +kernel
theorem dL_law_700 : decode cL_law 700 = .ok (.aload_n 0, 1) := by decide +kernel
theorem dL_law_701 : decode cL_law 701 = .ok (.iload_n 3, 1) := by decide +kernel
theorem dL_law_702 : decode cL_law 702 = .ok (.iconst 1, 1) := by decide +kernel
theorem dL_law_703 : decode cL_law 703 = .ok (.iadd, 1) := by decide +kernel
theorem dL_law_704 : decode cL_law 704 = .ok (.iaload, 1) := by decide +kernel
theorem dL_law_705 : decode cL_law 705 = .ok (.aload_n 0, 1) := by decide +kernel
theorem dL_law_706 : decode cL_law 706 = .ok (.iload_n 3, 1) := by decide +kernel
theorem dL_law_707 : decode cL_law 707 = .ok (.iconst 2, 1) := by decide +kernel
theorem dL_law_708 : decode cL_law 708 = .ok (.iadd, 1) := by decide +kernel
theorem dL_law_709 : decode cL_law 709 = .ok (.iaload, 1) := by decide +kernel
theorem dL_law_710 : decode cL_law 710 = .ok (.aload_n 0, 1) := by decide +kernel
theorem dL_law_711 : decode cL_law 711 = .ok (.iload_n 3, 1) := by decide +kernel
theorem dL_law_712 : decode cL_law 712 = .ok (.iconst 3, 1) := by decide +kernel
theorem dL_law_713 : decode cL_law 713 = .ok (.iadd, 1) := by decide +kernel
theorem dL_law_714 : decode cL_law 714 = .ok (.iaload, 1) := by decide +kernel
theorem dL_law_715 : decode cL_law 715 = .ok (.invokevirtual 93, 3) := by decide +kernel
theorem dL_law_718 : decode cL_law 718 = .ok (.aload_n 2, 1) := by decide +kernel
theorem dL_law_719 : decode cL_law 719 = .ok (.aload_n 0, 1) := by decide +kernel
theorem dL_law_720 : decode cL_law 720 = .ok (.iload_n 3, 1) := by decide +kernel
theorem dL_law_721 : decode cL_law 721 = .ok (.iconst 1, 1) := by decide +kernel
theorem dL_law_722 : decode cL_law 722 = .ok (.iadd, 1) := by decide +kernel
theorem dL_law_723 : decode cL_law 723 = .ok (.iaload, 1) := by decide +kernel
theorem dL_law_724 : decode cL_law 724 = .ok (.aload_n 0, 1) := by decide +kernel
theorem dL_law_725 : decode cL_law 725 = .ok (.iload_n 3, 1) := by decide +kernel
theorem dL_law_726 : decode cL_law 726 = .ok (.iconst 2, 1) := by decide +kernel
theorem dL_law_727 : decode cL_law 727 = .ok (.iadd, 1) := by decide +kernel
theorem dL_law_728 : decode cL_law 728 = .ok (.iaload, 1) := by decide +kernel
theorem dL_law_729 : decode cL_law 729 = .ok (.aload_n 0, 1) := by decide +kernel
theorem dL_law_730 : decode cL_law 730 = .ok (.iload_n 3, 1) := by decide +kernel
theorem dL_law_731 : decode cL_law 731 = .ok (.iconst 3, 1) := by decide +kernel
theorem dL_law_732 : decode cL_law 732 = .ok (.iadd, 1) := by decide +kernel
theorem dL_law_733 : decode cL_law 733 = .ok (.iaload, 1) := by decide +kernel
theorem dL_law_734 : decode cL_law 734 = .ok (.invokevirtual 96, 3) := by decide +kernel
theorem dL_law_737 : decode cL_law 737 = .ok (.if_icmp .eq 409, 3) := by decide +kernel
theorem dL_law_740 : decode cL_law 740 = .ok (.iconst 0, 1) := by decide +kernel
theorem dL_law_741 : decode cL_law 741 = .ok (.ireturn, 1) := by decide +kernel
theorem dL_law_742 : decode cL_law 742 = .ok (.aload_n 1, 1) := by decide +kernel
theorem dL_law_743 : decode cL_law 743 = .ok (.aload_n 0, 1) := by decide +kernel
theorem dL_law_744 : decode cL_law 744 = .ok (.iload_n 3, 1) := by decide +kernel
theorem dL_law_745 : decode cL_law 745 = .ok (.iconst 1, 1) := by decide +kernel
theorem dL_law_746 : decode cL_law 746 = .ok (.iadd, 1) := by decide +kernel
theorem dL_law_747 : decode cL_law 747 = .ok (.iaload, 1) := by decide +kernel
theorem dL_law_748 : decode cL_law 748 = .ok (.invokevirtual 97, 3) := by decide +kernel
theorem dL_law_751 : decode cL_law 751 = .ok (.aload_n 2, 1) := by decide +kernel
theorem dL_law_752 : decode cL_law 752 = .ok (.aload_n 0, 1) := by decide +kernel
theorem dL_law_753 : decode cL_law 753 = .ok (.iload_n 3, 1) := by decide +kernel
theorem dL_law_754 : decode cL_law 754 = .ok (.iconst 1, 1) := by decide +kernel
theorem dL_law_755 : decode cL_law 755 = .ok (.iadd, 1) := by decide +kernel
theorem dL_law_756 : decode cL_law 756 = .ok (.iaload, 1) := by decide +kernel
theorem dL_law_757 : decode cL_law 757 = .ok (.invokevirtual 100, 3) := by decide +kernel
theorem dL_law_760 : decode cL_law 760 = .ok (.if_icmp .eq 386, 3) := by decide +kernel
theorem dL_law_763 : decode cL_law 763 = .ok (.iconst 0, 1) := by decide +kernel
theorem dL_law_764 : decode cL_law 764 = .ok (.ireturn, 1) := by decide +kernel
theorem dL_law_765 : decode cL_law 765 = .ok (.aload_n 1, 1) := by decide +kernel
theorem dL_law_766 : decode cL_law 766 = .ok (.invokevirtual 101, 3) := by decide +kernel
theorem dL_law_769 : decode cL_law 769 = .ok (.aload_n 2, 1) := by decide +kernel
theorem dL_law_770 : decode cL_law 770 = .ok (.invokevirtual 104, 3) := by decide +kernel
theorem dL_law_773 : decode cL_law 773 = .ok (.if_icmp .eq 373, 3) := by decide +kernel
theorem dL_law_776 : decode cL_law 776 = .ok (.iconst 0, 1) := by decide +kernel
theorem dL_law_777 : decode cL_law 777 = .ok (.ireturn, 1) := by decide +kernel
theorem dL_law_778 : decode cL_law 778 = .ok (.aload_n 1, 1) := by decide +kernel
theorem dL_law_779 : decode cL_law 779 = .ok (.invokevirtual 105, 3) := by decide +kernel
theorem dL_law_782 : decode cL_law 782 = .ok (.aload_n 2, 1) := by decide +kernel
theorem dL_law_783 : decode cL_law 783 = .ok (.invokevirtual 108, 3) := by decide +kernel
theorem dL_law_786 : decode cL_law 786 = .ok (.if_icmp .eq 360, 3) := by decide +kernel
theorem dL_law_789 : decode cL_law 789 = .ok (.iconst 0, 1) := by decide +kernel
theorem dL_law_790 : decode cL_law 790 = .ok (.ireturn, 1) := by decide +kernel
theorem dL_law_791 : decode cL_law 791 = .ok (.aload_n 1, 1) := by decide +kernel
theorem dL_law_792 : decode cL_law 792 = .ok (.invokevirtual 109, 3) := by decide +kernel
theorem dL_law_795 : decode cL_law 795 = .ok (.aload_n 2, 1) := by decide +kernel
theorem dL_law_796 : decode cL_law 796 = .ok (.invokevirtual 112, 3) := by decide +kernel
theorem dL_law_799 : decode cL_law 799 = .ok (.if_icmp .eq 347, 3) := by decide +kernel
theorem dL_law_802 : decode cL_law 802 = .ok (.iconst 0, 1) := by decide +kernel
theorem dL_law_803 : decode cL_law 803 = .ok (.ireturn, 1) := by decide +kernel
theorem dL_law_804 : decode cL_law 804 = .ok (.aload_n 1, 1) := by decide +kernel
theorem dL_law_805 : decode cL_law 805 = .ok (.aload_n 0, 1) := by decide +kernel
theorem dL_law_806 : decode cL_law 806 = .ok (.iload_n 3, 1) := by decide +kernel
theorem dL_law_807 : decode cL_law 807 = .ok (.iconst 1, 1) := by decide +kernel
theorem dL_law_808 : decode cL_law 808 = .ok (.iadd, 1) := by decide +kernel
theorem dL_law_809 : decode cL_law 809 = .ok (.iaload, 1) := by decide +kernel
theorem dL_law_810 : decode cL_law 810 = .ok (.aload_n 0, 1) := by decide +kernel
theorem dL_law_811 : decode cL_law 811 = .ok (.iload_n 3, 1) := by decide +kernel
theorem dL_law_812 : decode cL_law 812 = .ok (.iconst 2, 1) := by decide +kernel
theorem dL_law_813 : decode cL_law 813 = .ok (.iadd, 1) := by decide +kernel
theorem dL_law_814 : decode cL_law 814 = .ok (.iaload, 1) := by decide +kernel
theorem dL_law_815 : decode cL_law 815 = .ok (.aload_n 0, 1) := by decide +kernel
theorem dL_law_816 : decode cL_law 816 = .ok (.iload_n 3, 1) := by decide +kernel
theorem dL_law_817 : decode cL_law 817 = .ok (.iconst 3, 1) := by decide +kernel
theorem dL_law_818 : decode cL_law 818 = .ok (.iadd, 1) := by decide +kernel
theorem dL_law_819 : decode cL_law 819 = .ok (.iaload, 1) := by decide +kernel
theorem dL_law_820 : decode cL_law 820 = .ok (.invokevirtual 113, 3) := by decide +kernel
theorem dL_law_823 : decode cL_law 823 = .ok (.aload_n 2, 1) := by decide +kernel
theorem dL_law_824 : decode cL_law 824 = .ok (.aload_n 0, 1) := by decide +kernel
theorem dL_law_825 : decode cL_law 825 = .ok (.iload_n 3, 1) := by decide +kernel
theorem dL_law_826 : decode cL_law 826 = .ok (.iconst 1, 1) := by decide +kernel
theorem dL_law_827 : decode cL_law 827 = .ok (.iadd, 1) := by decide +kernel
theorem dL_law_828 : decode cL_law 828 = .ok (.iaload, 1) := by decide +kernel
theorem dL_law_829 : decode cL_law 829 = .ok (.aload_n 0, 1) := by decide +kernel
theorem dL_law_830 : decode cL_law 830 = .ok (.iload_n 3, 1) := by decide +kernel
theorem dL_law_831 : decode cL_law 831 = .ok (.iconst 2, 1) := by decide +kernel
theorem dL_law_832 : decode cL_law 832 = .ok (.iadd, 1) := by decide +kernel
theorem dL_law_833 : decode cL_law 833 = .ok (.iaload, 1) := by decide +kernel
theorem dL_law_834 : decode cL_law 834 = .ok (.aload_n 0, 1) := by decide +kernel
theorem dL_law_835 : decode cL_law 835 = .ok (.iload_n 3, 1) := by decide +kernel
theorem dL_law_836 : decode cL_law 836 = .ok (.iconst 3, 1) := by decide +kernel
theorem dL_law_837 : decode cL_law 837 = .ok (.iadd, 1) := by decide +kernel
theorem dL_law_838 : decode cL_law 838 = .ok (.iaload, 1) := by decide +kernel
theorem dL_law_839 : decode cL_law 839 = .ok (.invokevirtual 116, 3) := by decide +kernel
theorem dL_law_842 : decode cL_law 842 = .ok (.if_icmp .eq 304, 3) := by decide +kernel
theorem dL_law_845 : decode cL_law 845 = .ok (.iconst 0, 1) := by decide +kernel
theorem dL_law_846 : decode cL_law 846 = .ok (.ireturn, 1) := by decide +kernel
theorem dL_law_847 : decode cL_law 847 = .ok (.aload_n 1, 1) := by decide +kernel
theorem dL_law_848 : decode cL_law 848 = .ok (.aload_n 0, 1) := by decide +kernel
theorem dL_law_849 : decode cL_law 849 = .ok (.iload_n 3, 1) := by decide +kernel
theorem dL_law_850 : decode cL_law 850 = .ok (.iconst 1, 1) := by decide +kernel
theorem dL_law_851 : decode cL_law 851 = .ok (.iadd, 1) := by decide +kernel
theorem dL_law_852 : decode cL_law 852 = .ok (.iaload, 1) := by decide +kernel
theorem dL_law_853 : decode cL_law 853 = .ok (.invokevirtual 117, 3) := by decide +kernel
theorem dL_law_856 : decode cL_law 856 = .ok (.aload_n 2, 1) := by decide +kernel
theorem dL_law_857 : decode cL_law 857 = .ok (.aload_n 0, 1) := by decide +kernel
theorem dL_law_858 : decode cL_law 858 = .ok (.iload_n 3, 1) := by decide +kernel
theorem dL_law_859 : decode cL_law 859 = .ok (.iconst 1, 1) := by decide +kernel
theorem dL_law_860 : decode cL_law 860 = .ok (.iadd, 1) := by decide +kernel
theorem dL_law_861 : decode cL_law 861 = .ok (.iaload, 1) := by decide +kernel
theorem dL_law_862 : decode cL_law 862 = .ok (.invokevirtual 120, 3) := by decide +kernel
theorem dL_law_865 : decode cL_law 865 = .ok (.if_icmp .eq 281, 3) := by decide +kernel
theorem dL_law_868 : decode cL_law 868 = .ok (.iconst 0, 1) := by decide +kernel
theorem dL_law_869 : decode cL_law 869 = .ok (.ireturn, 1) := by decide +kernel
theorem dL_law_870 : decode cL_law 870 = .ok (.aload_n 1, 1) := by decide +kernel
theorem dL_law_871 : decode cL_law 871 = .ok (.aload_n 0, 1) := by decide +kernel
theorem dL_law_872 : decode cL_law 872 = .ok (.iload_n 3, 1) := by decide +kernel
theorem dL_law_873 : decode cL_law 873 = .ok (.iconst 1, 1) := by decide +kernel
theorem dL_law_874 : decode cL_law 874 = .ok (.iadd, 1) := by decide +kernel
theorem dL_law_875 : decode cL_law 875 = .ok (.iaload, 1) := by decide +kernel
theorem dL_law_876 : decode cL_law 876 = .ok (.aload_n 0, 1) := by decide +kernel
theorem dL_law_877 : decode cL_law 877 = .ok (.iload_n 3, 1) := by decide +kernel
theorem dL_law_878 : decode cL_law 878 = .ok (.iconst 2, 1) := by decide +kernel
theorem dL_law_879 : decode cL_law 879 = .ok (.iadd, 1) := by decide +kernel
theorem dL_law_880 : decode cL_law 880 = .ok (.iaload, 1) := by decide +kernel
theorem dL_law_881 : decode cL_law 881 = .ok (.aload_n 0, 1) := by decide +kernel
theorem dL_law_882 : decode cL_law 882 = .ok (.iload_n 3, 1) := by decide +kernel
theorem dL_law_883 : decode cL_law 883 = .ok (.iconst 3, 1) := by decide +kernel
theorem dL_law_884 : decode cL_law 884 = .ok (.iadd, 1) := by decide +kernel
theorem dL_law_885 : decode cL_law 885 = .ok (.iaload, 1) := by decide +kernel
theorem dL_law_886 : decode cL_law 886 = .ok (.aload_n 0, 1) := by decide +kernel
theorem dL_law_887 : decode cL_law 887 = .ok (.iload_n 3, 1) := by decide +kernel
theorem dL_law_888 : decode cL_law 888 = .ok (.iconst 4, 1) := by decide +kernel
theorem dL_law_889 : decode cL_law 889 = .ok (.iadd, 1) := by decide +kernel
theorem dL_law_890 : decode cL_law 890 = .ok (.iaload, 1) := by decide +kernel
theorem dL_law_891 : decode cL_law 891 = .ok (.i2l, 1) := by decide +kernel
theorem dL_law_892 : decode cL_law 892 = .ok (.bipush 32, 2) := by decide +kernel
theorem dL_law_894 : decode cL_law 894 = .ok (.lshl, 1) := by decide +kernel
theorem dL_law_895 : decode cL_law 895 = .ok (.aload_n 0, 1) := by decide +kernel
theorem dL_law_896 : decode cL_law 896 = .ok (.iload_n 3, 1) := by decide +kernel
theorem dL_law_897 : decode cL_law 897 = .ok (.iconst 5, 1) := by decide +kernel
theorem dL_law_898 : decode cL_law 898 = .ok (.iadd, 1) := by decide +kernel
theorem dL_law_899 : decode cL_law 899 = .ok (.iaload, 1) := by decide +kernel
theorem dL_law_900 : decode cL_law 900 = .ok (.i2l, 1) := by decide +kernel
theorem dL_law_901 : decode cL_law 901 = .ok (.ldc2_w 121, 3) := by decide +kernel
theorem dL_law_904 : decode cL_law 904 = .ok (.land, 1) := by decide +kernel
theorem dL_law_905 : decode cL_law 905 = .ok (.lor, 1) := by decide +kernel
theorem dL_law_906 : decode cL_law 906 = .ok (.invokevirtual 123, 3) := by decide +kernel
theorem dL_law_909 : decode cL_law 909 = .ok (.aload_n 2, 1) := by decide +kernel
theorem dL_law_910 : decode cL_law 910 = .ok (.aload_n 0, 1) := by decide +kernel
theorem dL_law_911 : decode cL_law 911 = .ok (.iload_n 3, 1) := by decide +kernel
theorem dL_law_912 : decode cL_law 912 = .ok (.iconst 1, 1) := by decide +kernel
theorem dL_law_913 : decode cL_law 913 = .ok (.iadd, 1) := by decide +kernel
theorem dL_law_914 : decode cL_law 914 = .ok (.iaload, 1) := by decide +kernel
theorem dL_law_915 : decode cL_law 915 = .ok (.aload_n 0, 1) := by decide +kernel
theorem dL_law_916 : decode cL_law 916 = .ok (.iload_n 3, 1) := by decide +kernel
theorem dL_law_917 : decode cL_law 917 = .ok (.iconst 2, 1) := by decide +kernel
theorem dL_law_918 : decode cL_law 918 = .ok (.iadd, 1) := by decide +kernel
theorem dL_law_919 : decode cL_law 919 = .ok (.iaload, 1) := by decide +kernel
theorem dL_law_920 : decode cL_law 920 = .ok (.aload_n 0, 1) := by decide +kernel
theorem dL_law_921 : decode cL_law 921 = .ok (.iload_n 3, 1) := by decide +kernel
theorem dL_law_922 : decode cL_law 922 = .ok (.iconst 3, 1) := by decide +kernel
theorem dL_law_923 : decode cL_law 923 = .ok (.iadd, 1) := by decide +kernel
theorem dL_law_924 : decode cL_law 924 = .ok (.iaload, 1) := by decide +kernel
theorem dL_law_925 : decode cL_law 925 = .ok (.aload_n 0, 1) := by decide +kernel
theorem dL_law_926 : decode cL_law 926 = .ok (.iload_n 3, 1) := by decide +kernel
theorem dL_law_927 : decode cL_law 927 = .ok (.iconst 4, 1) := by decide +kernel
theorem dL_law_928 : decode cL_law 928 = .ok (.iadd, 1) := by decide +kernel
theorem dL_law_929 : decode cL_law 929 = .ok (.iaload, 1) := by decide +kernel
theorem dL_law_930 : decode cL_law 930 = .ok (.i2l, 1) := by decide +kernel
theorem dL_law_931 : decode cL_law 931 = .ok (.bipush 32, 2) := by decide +kernel
theorem dL_law_933 : decode cL_law 933 = .ok (.lshl, 1) := by decide +kernel
theorem dL_law_934 : decode cL_law 934 = .ok (.aload_n 0, 1) := by decide +kernel
theorem dL_law_935 : decode cL_law 935 = .ok (.iload_n 3, 1) := by decide +kernel
theorem dL_law_936 : decode cL_law 936 = .ok (.iconst 5, 1) := by decide +kernel
theorem dL_law_937 : decode cL_law 937 = .ok (.iadd, 1) := by decide +kernel
theorem dL_law_938 : decode cL_law 938 = .ok (.iaload, 1) := by decide +kernel
theorem dL_law_939 : decode cL_law 939 = .ok (.i2l, 1) := by decide +kernel
theorem dL_law_940 : decode cL_law 940 = .ok (.ldc2_w 121, 3) := by decide +kernel
theorem dL_law_943 : decode cL_law 943 = .ok (.land, 1) := by decide +kernel
theorem dL_law_944 : decode cL_law 944 = .ok (.lor, 1) := by decide +kernel
theorem dL_law_945 : decode cL_law 945 = .ok (.invokevirtual 127, 3) := by decide +kernel
theorem dL_law_948 : decode cL_law 948 = .ok (.lcmp, 1) := by decide +kernel
theorem dL_law_949 : decode cL_law 949 = .ok (.ifCond .eq 197, 3) := by decide +kernel
theorem dL_law_952 : decode cL_law 952 = .ok (.iconst 0, 1) := by decide +kernel
theorem dL_law_953 : decode cL_law 953 = .ok (.ireturn, 1) := by decide +kernel
theorem dL_law_954 : decode cL_law 954 = .ok (.aload_n 1, 1) := by decide +kernel
theorem dL_law_955 : decode cL_law 955 = .ok (.aload_n 0, 1) := by decide +kernel
theorem dL_law_956 : decode cL_law 956 = .ok (.iload_n 3, 1) := by decide +kernel
theorem dL_law_957 : decode cL_law 957 = .ok (.iconst 1, 1) := by decide +kernel
theorem dL_law_958 : decode cL_law 958 = .ok (.iadd, 1) := by decide +kernel
theorem dL_law_959 : decode cL_law 959 = .ok (.iaload, 1) := by decide +kernel
theorem dL_law_960 : decode cL_law 960 = .ok (.aload_n 0, 1) := by decide +kernel
theorem dL_law_961 : decode cL_law 961 = .ok (.iload_n 3, 1) := by decide +kernel
theorem dL_law_962 : decode cL_law 962 = .ok (.iconst 2, 1) := by decide +kernel
theorem dL_law_963 : decode cL_law 963 = .ok (.iadd, 1) := by decide +kernel
theorem dL_law_964 : decode cL_law 964 = .ok (.iaload, 1) := by decide +kernel
theorem dL_law_965 : decode cL_law 965 = .ok (.aload_n 0, 1) := by decide +kernel
theorem dL_law_966 : decode cL_law 966 = .ok (.iload_n 3, 1) := by decide +kernel
theorem dL_law_967 : decode cL_law 967 = .ok (.iconst 3, 1) := by decide +kernel
theorem dL_law_968 : decode cL_law 968 = .ok (.iadd, 1) := by decide +kernel
theorem dL_law_969 : decode cL_law 969 = .ok (.iaload, 1) := by decide +kernel
theorem dL_law_970 : decode cL_law 970 = .ok (.aload_n 0, 1) := by decide +kernel
theorem dL_law_971 : decode cL_law 971 = .ok (.iload_n 3, 1) := by decide +kernel
theorem dL_law_972 : decode cL_law 972 = .ok (.iconst 4, 1) := by decide +kernel
theorem dL_law_973 : decode cL_law 973 = .ok (.iadd, 1) := by decide +kernel
theorem dL_law_974 : decode cL_law 974 = .ok (.iaload, 1) := by decide +kernel
theorem dL_law_975 : decode cL_law 975 = .ok (.aload_n 0, 1) := by decide +kernel
theorem dL_law_976 : decode cL_law 976 = .ok (.iload_n 3, 1) := by decide +kernel
theorem dL_law_977 : decode cL_law 977 = .ok (.iconst 5, 1) := by decide +kernel
theorem dL_law_978 : decode cL_law 978 = .ok (.iadd, 1) := by decide +kernel
theorem dL_law_979 : decode cL_law 979 = .ok (.iaload, 1) := by decide +kernel
theorem dL_law_980 : decode cL_law 980 = .ok (.invokevirtual 128, 3) := by decide +kernel
theorem dL_law_983 : decode cL_law 983 = .ok (.aload_n 2, 1) := by decide +kernel
theorem dL_law_984 : decode cL_law 984 = .ok (.aload_n 0, 1) := by decide +kernel
theorem dL_law_985 : decode cL_law 985 = .ok (.iload_n 3, 1) := by decide +kernel
theorem dL_law_986 : decode cL_law 986 = .ok (.iconst 1, 1) := by decide +kernel
theorem dL_law_987 : decode cL_law 987 = .ok (.iadd, 1) := by decide +kernel
theorem dL_law_988 : decode cL_law 988 = .ok (.iaload, 1) := by decide +kernel
theorem dL_law_989 : decode cL_law 989 = .ok (.aload_n 0, 1) := by decide +kernel
theorem dL_law_990 : decode cL_law 990 = .ok (.iload_n 3, 1) := by decide +kernel
theorem dL_law_991 : decode cL_law 991 = .ok (.iconst 2, 1) := by decide +kernel
theorem dL_law_992 : decode cL_law 992 = .ok (.iadd, 1) := by decide +kernel
theorem dL_law_993 : decode cL_law 993 = .ok (.iaload, 1) := by decide +kernel
theorem dL_law_994 : decode cL_law 994 = .ok (.aload_n 0, 1) := by decide +kernel
theorem dL_law_995 : decode cL_law 995 = .ok (.iload_n 3, 1) := by decide +kernel
theorem dL_law_996 : decode cL_law 996 = .ok (.iconst 3, 1) := by decide +kernel
theorem dL_law_997 : decode cL_law 997 = .ok (.iadd, 1) := by decide +kernel
theorem dL_law_998 : decode cL_law 998 = .ok (.iaload, 1) := by decide +kernel
theorem dL_law_999 : decode cL_law 999 = .ok (.aload_n 0, 1) := by decide +kernel
theorem dL_law_1000 : decode cL_law 1000 = .ok (.iload_n 3, 1) := by decide +kernel
theorem dL_law_1001 : decode cL_law 1001 = .ok (.iconst 4, 1) := by decide +kernel
theorem dL_law_1002 : decode cL_law 1002 = .ok (.iadd, 1) := by decide +kernel
theorem dL_law_1003 : decode cL_law 1003 = .ok (.iaload, 1) := by decide +kernel
theorem dL_law_1004 : decode cL_law 1004 = .ok (.aload_n 0, 1) := by decide +kernel
theorem dL_law_1005 : decode cL_law 1005 = .ok (.iload_n 3, 1) := by decide +kernel
theorem dL_law_1006 : decode cL_law 1006 = .ok (.iconst 5, 1) := by decide +kernel
theorem dL_law_1007 : decode cL_law 1007 = .ok (.iadd, 1) := by decide +kernel
theorem dL_law_1008 : decode cL_law 1008 = .ok (.iaload, 1) := by decide +kernel
theorem dL_law_1009 : decode cL_law 1009 = .ok (.invokevirtual 132, 3) := by decide +kernel
theorem dL_law_1012 : decode cL_law 1012 = .ok (.if_icmp .eq 134, 3) := by decide +kernel
theorem dL_law_1015 : decode cL_law 1015 = .ok (.iconst 0, 1) := by decide +kernel
theorem dL_law_1016 : decode cL_law 1016 = .ok (.ireturn, 1) := by decide +kernel
theorem dL_law_1017 : decode cL_law 1017 = .ok (.aload_n 1, 1) := by decide +kernel
theorem dL_law_1018 : decode cL_law 1018 = .ok (.aload_n 0, 1) := by decide +kernel
theorem dL_law_1019 : decode cL_law 1019 = .ok (.iload_n 3, 1) := by decide +kernel
theorem dL_law_1020 : decode cL_law 1020 = .ok (.iconst 1, 1) := by decide +kernel
theorem dL_law_1021 : decode cL_law 1021 = .ok (.iadd, 1) := by decide +kernel
theorem dL_law_1022 : decode cL_law 1022 = .ok (.iaload, 1) := by decide +kernel
theorem dL_law_1023 : decode cL_law 1023 = .ok (.aload_n 0, 1) := by decide +kernel
theorem dL_law_1024 : decode cL_law 1024 = .ok (.iload_n 3, 1) := by decide +kernel
theorem dL_law_1025 : decode cL_law 1025 = .ok (.iconst 2, 1) := by decide +kernel
theorem dL_law_1026 : decode cL_law 1026 = .ok (.iadd, 1) := by decide +kernel
theorem dL_law_1027 : decode cL_law 1027 = .ok (.iaload, 1) := by decide +kernel
theorem dL_law_1028 : decode cL_law 1028 = .ok (.aload_n 0, 1) := by decide +kernel
theorem dL_law_1029 : decode cL_law 1029 = .ok (.iload_n 3, 1) := by decide +kernel
theorem dL_law_1030 : decode cL_law 1030 = .ok (.iconst 3, 1) := by decide +kernel
theorem dL_law_1031 : decode cL_law 1031 = .ok (.iadd, 1) := by decide +kernel
theorem dL_law_1032 : decode cL_law 1032 = .ok (.iaload, 1) := by decide +kernel
theorem dL_law_1033 : decode cL_law 1033 = .ok (.aload_n 0, 1) := by decide +kernel
theorem dL_law_1034 : decode cL_law 1034 = .ok (.iload_n 3, 1) := by decide +kernel
theorem dL_law_1035 : decode cL_law 1035 = .ok (.iconst 4, 1) := by decide +kernel
theorem dL_law_1036 : decode cL_law 1036 = .ok (.iadd, 1) := by decide +kernel
theorem dL_law_1037 : decode cL_law 1037 = .ok (.iaload, 1) := by decide +kernel
theorem dL_law_1038 : decode cL_law 1038 = .ok (.invokevirtual 133, 3) := by decide +kernel
theorem dL_law_1041 : decode cL_law 1041 = .ok (.aload_n 2, 1) := by decide +kernel
theorem dL_law_1042 : decode cL_law 1042 = .ok (.aload_n 0, 1) := by decide +kernel
theorem dL_law_1043 : decode cL_law 1043 = .ok (.iload_n 3, 1) := by decide +kernel
theorem dL_law_1044 : decode cL_law 1044 = .ok (.iconst 1, 1) := by decide +kernel
theorem dL_law_1045 : decode cL_law 1045 = .ok (.iadd, 1) := by decide +kernel
theorem dL_law_1046 : decode cL_law 1046 = .ok (.iaload, 1) := by decide +kernel
theorem dL_law_1047 : decode cL_law 1047 = .ok (.aload_n 0, 1) := by decide +kernel
theorem dL_law_1048 : decode cL_law 1048 = .ok (.iload_n 3, 1) := by decide +kernel
theorem dL_law_1049 : decode cL_law 1049 = .ok (.iconst 2, 1) := by decide +kernel
theorem dL_law_1050 : decode cL_law 1050 = .ok (.iadd, 1) := by decide +kernel
theorem dL_law_1051 : decode cL_law 1051 = .ok (.iaload, 1) := by decide +kernel
theorem dL_law_1052 : decode cL_law 1052 = .ok (.aload_n 0, 1) := by decide +kernel
theorem dL_law_1053 : decode cL_law 1053 = .ok (.iload_n 3, 1) := by decide +kernel
theorem dL_law_1054 : decode cL_law 1054 = .ok (.iconst 3, 1) := by decide +kernel
theorem dL_law_1055 : decode cL_law 1055 = .ok (.iadd, 1) := by decide +kernel
theorem dL_law_1056 : decode cL_law 1056 = .ok (.iaload, 1) := by decide +kernel
theorem dL_law_1057 : decode cL_law 1057 = .ok (.aload_n 0, 1) := by decide +kernel
theorem dL_law_1058 : decode cL_law 1058 = .ok (.iload_n 3, 1) := by decide +kernel
theorem dL_law_1059 : decode cL_law 1059 = .ok (.iconst 4, 1) := by decide +kernel
theorem dL_law_1060 : decode cL_law 1060 = .ok (.iadd, 1) := by decide +kernel
theorem dL_law_1061 : decode cL_law 1061 = .ok (.iaload, 1) := by decide +kernel
theorem dL_law_1062 : decode cL_law 1062 = .ok (.invokevirtual 137, 3) := by decide +kernel
theorem dL_law_1065 : decode cL_law 1065 = .ok (.if_icmp .eq 81, 3) := by decide +kernel
theorem dL_law_1068 : decode cL_law 1068 = .ok (.iconst 0, 1) := by decide +kernel
theorem dL_law_1069 : decode cL_law 1069 = .ok (.ireturn, 1) := by decide +kernel
theorem dL_law_1070 : decode cL_law 1070 = .ok (.aload_n 1, 1) := by decide +kernel
theorem dL_law_1071 : decode cL_law 1071 = .ok (.aload_n 0, 1) := by decide +kernel
theorem dL_law_1072 : decode cL_law 1072 = .ok (.iload_n 3, 1) := by decide +kernel
theorem dL_law_1073 : decode cL_law 1073 = .ok (.iconst 1, 1) := by decide +kernel
theorem dL_law_1074 : decode cL_law 1074 = .ok (.iadd, 1) := by decide +kernel
theorem dL_law_1075 : decode cL_law 1075 = .ok (.iaload, 1) := by decide +kernel
theorem dL_law_1076 : decode cL_law 1076 = .ok (.aload_n 0, 1) := by decide +kernel
theorem dL_law_1077 : decode cL_law 1077 = .ok (.iload_n 3, 1) := by decide +kernel
theorem dL_law_1078 : decode cL_law 1078 = .ok (.iconst 2, 1) := by decide +kernel
theorem dL_law_1079 : decode cL_law 1079 = .ok (.iadd, 1) := by decide +kernel
theorem dL_law_1080 : decode cL_law 1080 = .ok (.iaload, 1) := by decide +kernel
theorem dL_law_1081 : decode cL_law 1081 = .ok (.aload_n 0, 1) := by decide +kernel
theorem dL_law_1082 : decode cL_law 1082 = .ok (.iload_n 3, 1) := by decide +kernel
theorem dL_law_1083 : decode cL_law 1083 = .ok (.iconst 3, 1) := by decide +kernel
theorem dL_law_1084 : decode cL_law 1084 = .ok (.iadd, 1) := by decide +kernel
theorem dL_law_1085 : decode cL_law 1085 = .ok (.iaload, 1) := by decide +kernel
theorem dL_law_1086 : decode cL_law 1086 = .ok (.aload_n 0, 1) := by decide +kernel
theorem dL_law_1087 : decode cL_law 1087 = .ok (.iload_n 3, 1) := by decide +kernel
theorem dL_law_1088 : decode cL_law 1088 = .ok (.iconst 4, 1) := by decide +kernel
theorem dL_law_1089 : decode cL_law 1089 = .ok (.iadd, 1) := by decide +kernel
theorem dL_law_1090 : decode cL_law 1090 = .ok (.iaload, 1) := by decide +kernel
theorem dL_law_1091 : decode cL_law 1091 = .ok (.invokevirtual 138, 3) := by decide +kernel
theorem dL_law_1094 : decode cL_law 1094 = .ok (.aload_n 2, 1) := by decide +kernel
theorem dL_law_1095 : decode cL_law 1095 = .ok (.aload_n 0, 1) := by decide +kernel
theorem dL_law_1096 : decode cL_law 1096 = .ok (.iload_n 3, 1) := by decide +kernel
theorem dL_law_1097 : decode cL_law 1097 = .ok (.iconst 1, 1) := by decide +kernel
theorem dL_law_1098 : decode cL_law 1098 = .ok (.iadd, 1) := by decide +kernel
theorem dL_law_1099 : decode cL_law 1099 = .ok (.iaload, 1) := by decide +kernel
theorem dL_law_1100 : decode cL_law 1100 = .ok (.aload_n 0, 1) := by decide +kernel
theorem dL_law_1101 : decode cL_law 1101 = .ok (.iload_n 3, 1) := by decide +kernel
theorem dL_law_1102 : decode cL_law 1102 = .ok (.iconst 2, 1) := by decide +kernel
theorem dL_law_1103 : decode cL_law 1103 = .ok (.iadd, 1) := by decide +kernel
theorem dL_law_1104 : decode cL_law 1104 = .ok (.iaload, 1) := by decide +kernel
theorem dL_law_1105 : decode cL_law 1105 = .ok (.aload_n 0, 1) := by decide +kernel
theorem dL_law_1106 : decode cL_law 1106 = .ok (.iload_n 3, 1) := by decide +kernel
theorem dL_law_1107 : decode cL_law 1107 = .ok (.iconst 3, 1) := by decide +kernel
theorem dL_law_1108 : decode cL_law 1108 = .ok (.iadd, 1) := by decide +kernel
theorem dL_law_1109 : decode cL_law 1109 = .ok (.iaload, 1) := by decide +kernel
theorem dL_law_1110 : decode cL_law 1110 = .ok (.aload_n 0, 1) := by decide +kernel
theorem dL_law_1111 : decode cL_law 1111 = .ok (.iload_n 3, 1) := by decide +kernel
theorem dL_law_1112 : decode cL_law 1112 = .ok (.iconst 4, 1) := by decide +kernel
theorem dL_law_1113 : decode cL_law 1113 = .ok (.iadd, 1) := by decide +kernel
theorem dL_law_1114 : decode cL_law 1114 = .ok (.iaload, 1) := by decide +kernel
theorem dL_law_1115 : decode cL_law 1115 = .ok (.invokevirtual 141, 3) := by decide +kernel
theorem dL_law_1118 : decode cL_law 1118 = .ok (.if_icmp .eq 28, 3) := by decide +kernel
theorem dL_law_1121 : decode cL_law 1121 = .ok (.iconst 0, 1) := by decide +kernel
theorem dL_law_1122 : decode cL_law 1122 = .ok (.ireturn, 1) := by decide +kernel
theorem dL_law_1123 : decode cL_law 1123 = .ok (.aload_n 1, 1) := by decide +kernel
theorem dL_law_1124 : decode cL_law 1124 = .ok (.aload_n 0, 1) := by decide +kernel
theorem dL_law_1125 : decode cL_law 1125 = .ok (.iload_n 3, 1) := by decide +kernel
theorem dL_law_1126 : decode cL_law 1126 = .ok (.iconst 1, 1) := by decide +kernel
theorem dL_law_1127 : decode cL_law 1127 = .ok (.iadd, 1) := by decide +kernel
theorem dL_law_1128 : decode cL_law 1128 = .ok (.iaload, 1) := by decide +kernel
theorem dL_law_1129 : decode cL_law 1129 = .ok (.invokevirtual 142, 3) := by decide +kernel
theorem dL_law_1132 : decode cL_law 1132 = .ok (.aload_n 2, 1) := by decide +kernel
theorem dL_law_1133 : decode cL_law 1133 = .ok (.aload_n 0, 1) := by decide +kernel
theorem dL_law_1134 : decode cL_law 1134 = .ok (.iload_n 3, 1) := by decide +kernel
theorem dL_law_1135 : decode cL_law 1135 = .ok (.iconst 1, 1) := by decide +kernel
theorem dL_law_1136 : decode cL_law 1136 = .ok (.iadd, 1) := by decide +kernel
theorem dL_law_1137 : decode cL_law 1137 = .ok (.iaload, 1) := by decide +kernel
theorem dL_law_1138 : decode cL_law 1138 = .ok (.invokevirtual 145, 3) := by decide +kernel
theorem dL_law_1141 : decode cL_law 1141 = .ok (.if_icmp .eq 5, 3) := by decide +kernel
theorem dL_law_1144 : decode cL_law 1144 = .ok (.iconst 0, 1) := by decide +kernel
theorem dL_law_1145 : decode cL_law 1145 = .ok (.ireturn, 1) := by decide +kernel
theorem dL_law_1146 : decode cL_law 1146 = .ok (.iinc 3 6, 3) := by decide +kernel
theorem dL_law_1149 : decode cL_law 1149 = .ok (.goto (-1131), 3) := by decide +kernel
theorem dL_law_1152 : decode cL_law 1152 = .ok (.iconst 1, 1) := by decide +kernel
theorem dL_law_1153 : decode cL_law 1153 = .ok (.ireturn, 1) := by decide +kernel
end
section
/-! The world as one memory: cell, index, whole number. Rows of the machine over it. -/
def zW : List Cond := lw_tbl.filter goodWord
theorem zW_mem {w : Cond} (i : Nat) (h : lw_tbl[i]? = some w) (hg : goodWord w = true) : w ∈ zW := List.mem_filter.mpr ⟨List.mem_of_getElem? h, hg⟩
theorem zW_good {w : Cond} (h : w ∈ zW) : w ∈ zW ∧ ((w.onTables && w.keeps) = true ∨ ∃ ty, w = .arrayClass ty) := ⟨h, good_of_word (List.mem_filter.mp h).2⟩
/-- the classes and array classes of a world, and the one link between nest mates that a method of it takes -/
def zNest : Cond := .methodLinkNest RX4 32 yX5_isByte "MirrorNodes"
abbrev zM : Type := Nat → Int → Int
def zI (x : Int) : Int32 := Int32.ofInt x
def zJ (x : Int) : Int64 := Int64.ofInt x
def zR (x : Int) : Prop := -2147483648 ≤ x ∧ x < 2147483648
theorem zI_add (a b : Int) : zI a + zI b = zI (a + b) := (Int32.ofInt_add a b).symm
theorem zI_sub (a b : Int) : zI a - zI b = zI (a - b) := (Int32.ofInt_sub a b).symm
theorem zI_mul (a b : Int) : zI a * zI b = zI (a * b) := (Int32.ofInt_mul a b).symm
theorem zJ_add (a b : Int) : zJ a + zJ b = zJ (a + b) := (Int64.ofInt_add a b).symm
theorem zJ_sub (a b : Int) : zJ a - zJ b = zJ (a - b) := (Int64.ofInt_sub a b).symm
theorem zJ_mul (a b : Int) : zJ a * zJ b = zJ (a * b) := (Int64.ofInt_mul a b).symm
theorem zI_toInt {a : Int} (h : zR a) : (zI a).toInt = a := Int32.toInt_ofInt_of_le h.1 h.2
theorem zJ_toInt {a : Int} (h1 : -9223372036854775808 ≤ a) (h2 : a < 9223372036854775808) : (zJ a).toInt = a := Int64.toInt_ofInt_of_le h1 h2
theorem zI_self (x : Int32) : zI x.toInt = x := Int32.ofInt_toInt x
theorem zJ_self (x : Int64) : zJ x.toInt = x := Int64.ofInt_toInt x
theorem zI_lt {a b : Int} (ha : zR a) (hb : zR b) : (zI a < zI b) = (a < b) := by
  rw [Int32.lt_iff_toInt_lt, zI_toInt ha, zI_toInt hb]
theorem zI_eq {a b : Int} (ha : zR a) (hb : zR b) : (zI a = zI b) = (a = b) := by
  apply propext
  rw [← Int32.toInt_inj, zI_toInt ha, zI_toInt hb]
theorem zI_in {i : Int} {n : Nat} (hn : n < 2147483648) (h : 0 ≤ i ∧ i < (n : Int)) : vp_in (zI i) n := by
  have hr : zR i := ⟨by omega, by omega⟩
  rw [vp_in_iff, zI_toInt hr]
  exact h
theorem zI_nat {i : Int} (h : 0 ≤ i) (h2 : i < 2147483648) : (zI i).toNatClampNeg = i.toNat := Int32.toNatClampNeg_ofInt_of_le (by omega) h2
theorem zI_nn {i : Int} (h : 0 ≤ i) (h2 : i < 2147483648) : ¬ zI i < 0 := by
  rw [Int32.lt_iff_toInt_lt, zI_toInt ⟨by omega, h2⟩]
  simp; exact h
/-- D, classes, array classes, how many cells, the cells, their addresses -/
abbrev zG : Type := va_G × List vw_C × List (ClassId × FieldType) × Nat × (Nat → (Int → Int) → va_E) × (Nat → Nat)
def zws (G : zG) (m : zM) : va_W := (List.range G.2.2.2.1).map (fun c => (G.2.2.2.2.2 c, G.2.2.2.2.1 c (m c)))
def zHold (G : zG) (m : zM) (H : Heap) : Prop := va_P G.1 G.2.1 (zws G m) H
def zA (G : zG) (q : Nat) : Prop := ∃ c, c < G.2.2.2.1 ∧ G.2.2.2.2.2 c = q
def zGok (G : zG) : Prop := ∀ c c' : Nat, c < G.2.2.2.1 → c' < G.2.2.2.1 → G.2.2.2.2.2 c = G.2.2.2.2.2 c' → c = c'
def zuf (f : Int → Int) (i v : Int) : Int → Int := fun j => if j = i then v else f j
def zuc (m : zM) (c : Nat) (f : Int → Int) : zM := fun c' => if c' = c then f else m c'
def zup (m : zM) (c : Nat) (i v : Int) : zM := zuc m c (zuf (m c) i v)
theorem zws_get {G : zG} {m : zM} {c : Nat} (h : c < G.2.2.2.1) : (zws G m)[c]? = some (G.2.2.2.2.2 c, G.2.2.2.2.1 c (m c)) := by
  simp [zws, h]
theorem zws_at {G : zG} {m : zM} {k : Nat} {q : Nat × va_E} (h : (zws G m)[k]? = some q) : k < G.2.2.2.1 ∧ q = (G.2.2.2.2.2 k, G.2.2.2.2.1 k (m k)) := by
  have hl : k < (zws G m).length := (List.getElem?_eq_some_iff.mp h).1
  have hk : k < G.2.2.2.1 := by simpa [zws] using hl
  rw [zws_get hk] at h
  exact ⟨hk, (Option.some.inj h).symm⟩
theorem zws_D {G : zG} {m : zM} (h : zGok G) : va_D (zA G) (zws G m) := by
  refine ⟨fun i j p q hi hj e => ?_, fun k q hk => ?_⟩
  · obtain ⟨h1, rfl⟩ := zws_at hi
    obtain ⟨h2, rfl⟩ := zws_at hj
    exact h i j h1 h2 e
  · obtain ⟨h1, rfl⟩ := zws_at hk
    exact ⟨k, h1, rfl⟩
theorem zws_set {G : zG} {m : zM} {c : Nat} {f : Int → Int} (h : c < G.2.2.2.1) : (zws G m).set c (G.2.2.2.2.2 c, G.2.2.2.2.1 c f) = zws G (zuc m c f) := by
  apply List.ext_getElem?
  intro k
  by_cases hk : k = c
  · subst hk
    rw [List.getElem?_set_self (by simpa [zws] using h), zws_get h]
    simp [zuc]
  · rw [List.getElem?_set_ne (Ne.symm hk)]
    by_cases hn : k < G.2.2.2.1
    · rw [zws_get hn, zws_get hn]
      simp [zuc, hk]
    · rw [List.getElem?_eq_none (by simpa [zws] using hn), List.getElem?_eq_none (by simpa [zws] using hn)]
/-- the machine's fixed part, with the answer and the memory that are due -/
abbrev zXT : Type := Program × Launch × Env × Room × State × MethodId × Array Value × List Frame × Method × Code × zG × Option Value × zM
def zQ (G : zG) (v0 : Option Value) (m0 : zM) : Array Value → State → Outcome → State → Prop := fun _ st oc t => oc = .returned v0 ∧ zHold G m0 t.heap ∧ va_F (zA G) st t
def zV : zXT → Nat → zM → Nat → List (Nat × Value) → List Value → Prop
  | (p, l, e, R, s, mI, args, below, meth, c, G, v0, m0), nL, m, pc, lv, st => ∀ (H : Heap) (locs : List Loc) (ls : Array Slot), zHold G m H → va_S (zA G) s.heap H locs → lv_has ls nL lv → W p l e R s mI args below meth c H locs 0 0 (MQ below (zQ G v0 m0) args s 0 0 (zA G)) (F0 mI pc ls st)
def zC : zXT → Launch → Room → zG → Option Value → zM → ByteArray → Nat → String → Option FieldType → Prop
  | (p, l, _, R, s, mI, args, _, meth, c, G, v0, m0), l', R', G', v', m', cc, nL, own, ret => l = l' ∧ R = R' ∧ G = G' ∧ v0 = v' ∧ m0 = m' ∧ p.tables.exec = Jvm.exec ∧ c.code = cc ∧ c.maxLocals = nL ∧ s.vm.findClass own = some mI.cls ∧ (∀ w ∈ zW, w.before args s = true) ∧ va_K G.1 G.2.1 G.2.2.1 s ∧ (zGok G ∧ va_Nw zNest s) ∧ meth.sig.returnType = ret ∧ meth.locks = false
section ZV
variable {X : zXT} {l : Launch} {R : Room} {G : zG} {v0 : Option Value} {m0 : zM} {cc : ByteArray} {nL : Nat} {own : String} {ret : Option FieldType}
variable {m : zM} {pc : Nat} {lv lv' : List (Nat × Value)} {st : List Value}
theorem z_sub (ks : List Nat) (hl : lv_pick lv ks = lv') (k : zV X nL m pc lv' st) : zV X nL m pc lv st := by
  obtain ⟨p, l, e, R, s, mI, args, below, meth, c, G, v0, m0⟩ := X
  exact fun H locs ls h1 h2 h3 => k H locs ls h1 h2 (lv_sub h3 ks hl)
theorem z_iconst (hX : zC X l R G v0 m0 cc nL own ret) {n : Int} (hd : decode cc pc = .ok (.iconst n, 1)) (k : zV X nL m (pc + 1) lv (.int (zI n) :: st)) : zV X nL m pc lv st := by
  obtain ⟨p, l, e, R, s, mI, args, below, meth, c, G, v0, m0⟩ := X
  obtain ⟨rfl, rfl, rfl, rfl, rfl, hx, hb, hml, hown, hts, hK, ⟨hok, hnw⟩, hr, hlk⟩ := hX
  exact fun H locs ls h1 h2 h3 => lv_iconst hx hb hd rfl (k H locs ls h1 h2 h3)
theorem z_bipush (hX : zC X l R G v0 m0 cc nL own ret) {n : Int} (hd : decode cc pc = .ok (.bipush n, 2)) (hv : (Int8.ofInt n).toInt32 = zI n) (k : zV X nL m (pc + 2) lv (.int (zI n) :: st)) : zV X nL m pc lv st := by
  obtain ⟨p, l, e, R, s, mI, args, below, meth, c, G, v0, m0⟩ := X
  obtain ⟨rfl, rfl, rfl, rfl, rfl, hx, hb, hml, hown, hts, hK, ⟨hok, hnw⟩, hr, hlk⟩ := hX
  exact fun H locs ls h1 h2 h3 => lv_bipush hx hb hd hv (k H locs ls h1 h2 h3)
theorem z_sipush (hX : zC X l R G v0 m0 cc nL own ret) {n : Int} (hd : decode cc pc = .ok (.sipush n, 3)) (hv : (Int16.ofInt n).toInt32 = zI n) (k : zV X nL m (pc + 3) lv (.int (zI n) :: st)) : zV X nL m pc lv st := by
  obtain ⟨p, l, e, R, s, mI, args, below, meth, c, G, v0, m0⟩ := X
  obtain ⟨rfl, rfl, rfl, rfl, rfl, hx, hb, hml, hown, hts, hK, ⟨hok, hnw⟩, hr, hlk⟩ := hX
  exact fun H locs ls h1 h2 h3 => lv_sipush hx hb hd hv (k H locs ls h1 h2 h3)
theorem z_ldc (hX : zC X l R G v0 m0 cc nL own ret) {ix : Nat} {n : Int} {v : Int32} (hw : Cond.constant own ix v ∈ zW) (hv : v = zI n) (hd : decode cc pc = .ok (.ldc ix, 2)) (k : zV X nL m (pc + 2) lv (.int (zI n) :: st)) : zV X nL m pc lv st := by
  obtain ⟨p, l, e, R, s, mI, args, below, meth, c, G, v0, m0⟩ := X
  obtain ⟨rfl, rfl, rfl, rfl, rfl, hx, hb, hml, hown, hts, hK, ⟨hok, hnw⟩, hr, hlk⟩ := hX
  subst hv
  exact fun H locs ls h1 h2 h3 => lv_ldc hx hb hown (hts _ hw) hd (k H locs ls h1 h2 h3)
theorem z_ldc2 (hX : zC X l R G v0 m0 cc nL own ret) {ix : Nat} {n : Int} {v : Int64} (hw : Cond.constantLong own ix v ∈ zW) (hv : v = zJ n) (hd : decode cc pc = .ok (.ldc2_w ix, 3)) (k : zV X nL m (pc + 3) lv (.long (zJ n) :: st)) : zV X nL m pc lv st := by
  obtain ⟨p, l, e, R, s, mI, args, below, meth, c, G, v0, m0⟩ := X
  obtain ⟨rfl, rfl, rfl, rfl, rfl, hx, hb, hml, hown, hts, hK, ⟨hok, hnw⟩, hr, hlk⟩ := hX
  subst hv
  exact fun H locs ls h1 h2 h3 => lv_ldc2 hx hb hown (hts _ hw) hd (k H locs ls h1 h2 h3)
theorem z_lconst (hX : zC X l R G v0 m0 cc nL own ret) {n : Fin 2} {a : Int} (hd : decode cc pc = .ok (.lconst n, 1)) (hv : Int64.ofNat (n : Nat) = zJ a) (k : zV X nL m (pc + 1) lv (.long (zJ a) :: st)) : zV X nL m pc lv st := by
  obtain ⟨p, l, e, R, s, mI, args, below, meth, c, G, v0, m0⟩ := X
  obtain ⟨rfl, rfl, rfl, rfl, rfl, hx, hb, hml, hown, hts, hK, ⟨hok, hnw⟩, hr, hlk⟩ := hX
  exact fun H locs ls h1 h2 h3 => lv_lconst hx hb hd hv (k H locs ls h1 h2 h3)
theorem z_iload_n (hX : zC X l R G v0 m0 cc nL own ret) {n : Fin 4} {i : Nat} {x : Int32} (j : Nat) (hd : decode cc pc = .ok (.iload_n n, 1)) (hi : (n : Nat) = i) (hl : lv[j]? = some (i, .int x)) (k : zV X nL m (pc + 1) lv (.int x :: st)) : zV X nL m pc lv st := by
  obtain ⟨p, l, e, R, s, mI, args, below, meth, c, G, v0, m0⟩ := X
  obtain ⟨rfl, rfl, rfl, rfl, rfl, hx, hb, hml, hown, hts, hK, ⟨hok, hnw⟩, hr, hlk⟩ := hX
  exact fun H locs ls h1 h2 h3 => lv_iload_n hx hb hd hi (lv_at h3 j hl) (k H locs ls h1 h2 h3)
theorem z_iload (hX : zC X l R G v0 m0 cc nL own ret) {i : Nat} {x : Int32} (j : Nat) (hd : decode cc pc = .ok (.iload i, 2)) (hl : lv[j]? = some (i, .int x)) (k : zV X nL m (pc + 2) lv (.int x :: st)) : zV X nL m pc lv st := by
  obtain ⟨p, l, e, R, s, mI, args, below, meth, c, G, v0, m0⟩ := X
  obtain ⟨rfl, rfl, rfl, rfl, rfl, hx, hb, hml, hown, hts, hK, ⟨hok, hnw⟩, hr, hlk⟩ := hX
  exact fun H locs ls h1 h2 h3 => lv_iload hx hb hd (lv_at h3 j hl) (k H locs ls h1 h2 h3)
theorem z_lload_n (hX : zC X l R G v0 m0 cc nL own ret) {n : Fin 4} {i : Nat} {x : Int64} (j : Nat) (hd : decode cc pc = .ok (.lload_n n, 1)) (hi : (n : Nat) = i) (hl : lv[j]? = some (i, .long x)) (k : zV X nL m (pc + 1) lv (.long x :: st)) : zV X nL m pc lv st := by
  obtain ⟨p, l, e, R, s, mI, args, below, meth, c, G, v0, m0⟩ := X
  obtain ⟨rfl, rfl, rfl, rfl, rfl, hx, hb, hml, hown, hts, hK, ⟨hok, hnw⟩, hr, hlk⟩ := hX
  exact fun H locs ls h1 h2 h3 => lv_lload_n hx hb hd hi (lv_at h3 j hl) (k H locs ls h1 h2 h3)
theorem z_lload (hX : zC X l R G v0 m0 cc nL own ret) {i : Nat} {x : Int64} (j : Nat) (hd : decode cc pc = .ok (.lload i, 2)) (hl : lv[j]? = some (i, .long x)) (k : zV X nL m (pc + 2) lv (.long x :: st)) : zV X nL m pc lv st := by
  obtain ⟨p, l, e, R, s, mI, args, below, meth, c, G, v0, m0⟩ := X
  obtain ⟨rfl, rfl, rfl, rfl, rfl, hx, hb, hml, hown, hts, hK, ⟨hok, hnw⟩, hr, hlk⟩ := hX
  exact fun H locs ls h1 h2 h3 => lv_lload hx hb hd (lv_at h3 j hl) (k H locs ls h1 h2 h3)
theorem z_aload_n (hX : zC X l R G v0 m0 cc nL own ret) {n : Fin 4} {i : Nat} {x : Nat} (j : Nat) (hd : decode cc pc = .ok (.aload_n n, 1)) (hi : (n : Nat) = i) (hl : lv[j]? = some (i, .ref x)) (k : zV X nL m (pc + 1) lv (.ref x :: st)) : zV X nL m pc lv st := by
  obtain ⟨p, l, e, R, s, mI, args, below, meth, c, G, v0, m0⟩ := X
  obtain ⟨rfl, rfl, rfl, rfl, rfl, hx, hb, hml, hown, hts, hK, ⟨hok, hnw⟩, hr, hlk⟩ := hX
  exact fun H locs ls h1 h2 h3 => lv_aload_n hx hb hd hi (lv_at h3 j hl) (k H locs ls h1 h2 h3)
theorem z_aload (hX : zC X l R G v0 m0 cc nL own ret) {i : Nat} {x : Nat} (j : Nat) (hd : decode cc pc = .ok (.aload i, 2)) (hl : lv[j]? = some (i, .ref x)) (k : zV X nL m (pc + 2) lv (.ref x :: st)) : zV X nL m pc lv st := by
  obtain ⟨p, l, e, R, s, mI, args, below, meth, c, G, v0, m0⟩ := X
  obtain ⟨rfl, rfl, rfl, rfl, rfl, hx, hb, hml, hown, hts, hK, ⟨hok, hnw⟩, hr, hlk⟩ := hX
  exact fun H locs ls h1 h2 h3 => lv_aload hx hb hd (lv_at h3 j hl) (k H locs ls h1 h2 h3)
abbrev zs1 (lv : List (Nat × Value)) (i : Nat) (v : Value) : List (Nat × Value) := (i, v) :: lv.filter (fun q => !(q.1 == i) && !(q.1 + 1 == i && q.2.category == 2))
abbrev zs2 (lv : List (Nat × Value)) (i : Nat) (v : Value) : List (Nat × Value) := (i, v) :: lv.filter (fun q => !(q.1 == i) && (!(q.1 == i + 1) && !(q.1 + 1 == i && q.2.category == 2)))
theorem z_istore_n (hX : zC X l R G v0 m0 cc nL own ret) {n : Fin 4} {i : Nat} {x : Int32} (hd : decode cc pc = .ok (.istore_n n, 1)) (hi : (n : Nat) = i) (hn : i < nL) (hl : zs1 lv i (.int x) = lv') (k : zV X nL m (pc + 1) lv' st) : zV X nL m pc lv (.int x :: st) := by
  obtain ⟨p, l, e, R, s, mI, args, below, meth, c, G, v0, m0⟩ := X
  obtain ⟨rfl, rfl, rfl, rfl, rfl, hx, hb, hml, hown, hts, hK, ⟨hok, hnw⟩, hr, hlk⟩ := hX
  exact fun H locs ls h1 h2 h3 => lv_istore_n hx hb hd hi h3 hn hl (fun ls' h3 => k H locs ls' h1 h2 h3)
theorem z_istore (hX : zC X l R G v0 m0 cc nL own ret) {i : Nat} {x : Int32} (hd : decode cc pc = .ok (.istore i, 2)) (hn : i < nL) (hl : zs1 lv i (.int x) = lv') (k : zV X nL m (pc + 2) lv' st) : zV X nL m pc lv (.int x :: st) := by
  obtain ⟨p, l, e, R, s, mI, args, below, meth, c, G, v0, m0⟩ := X
  obtain ⟨rfl, rfl, rfl, rfl, rfl, hx, hb, hml, hown, hts, hK, ⟨hok, hnw⟩, hr, hlk⟩ := hX
  exact fun H locs ls h1 h2 h3 => lv_istore hx hb hd h3 hn hl (fun ls' h3 => k H locs ls' h1 h2 h3)
theorem z_lstore (hX : zC X l R G v0 m0 cc nL own ret) {i : Nat} {x : Int64} (hd : decode cc pc = .ok (.lstore i, 2)) (hn : i + 1 < nL) (hl : zs2 lv i (.long x) = lv') (k : zV X nL m (pc + 2) lv' st) : zV X nL m pc lv (.long x :: st) := by
  obtain ⟨p, l, e, R, s, mI, args, below, meth, c, G, v0, m0⟩ := X
  obtain ⟨rfl, rfl, rfl, rfl, rfl, hx, hb, hml, hown, hts, hK, ⟨hok, hnw⟩, hr, hlk⟩ := hX
  exact fun H locs ls h1 h2 h3 => lv_lstore hx hb hd h3 hn hl (fun ls' h3 => k H locs ls' h1 h2 h3)
theorem z_astore_n (hX : zC X l R G v0 m0 cc nL own ret) {n : Fin 4} {i : Nat} {x : Nat} (hd : decode cc pc = .ok (.astore_n n, 1)) (hi : (n : Nat) = i) (hn : i < nL) (hl : zs1 lv i (.ref x) = lv') (k : zV X nL m (pc + 1) lv' st) : zV X nL m pc lv (.ref x :: st) := by
  obtain ⟨p, l, e, R, s, mI, args, below, meth, c, G, v0, m0⟩ := X
  obtain ⟨rfl, rfl, rfl, rfl, rfl, hx, hb, hml, hown, hts, hK, ⟨hok, hnw⟩, hr, hlk⟩ := hX
  exact fun H locs ls h1 h2 h3 => lv_astore_n hx hb hd hi h3 hn hl (fun ls' h3 => k H locs ls' h1 h2 h3)
theorem z_astore (hX : zC X l R G v0 m0 cc nL own ret) {i : Nat} {x : Nat} (hd : decode cc pc = .ok (.astore i, 2)) (hn : i < nL) (hl : zs1 lv i (.ref x) = lv') (k : zV X nL m (pc + 2) lv' st) : zV X nL m pc lv (.ref x :: st) := by
  obtain ⟨p, l, e, R, s, mI, args, below, meth, c, G, v0, m0⟩ := X
  obtain ⟨rfl, rfl, rfl, rfl, rfl, hx, hb, hml, hown, hts, hK, ⟨hok, hnw⟩, hr, hlk⟩ := hX
  exact fun H locs ls h1 h2 h3 => lv_astore hx hb hd h3 hn hl (fun ls' h3 => k H locs ls' h1 h2 h3)
theorem z_iinc (hX : zC X l R G v0 m0 cc nL own ret) {i : Nat} {n a : Int} (j : Nat) (hd : decode cc pc = .ok (.iinc i n, 3)) (hk : lv[j]? = some (i, .int (zI a))) (hn : i < nL) (hl : zs1 lv i (.int (zI (a + n))) = lv') (k : zV X nL m (pc + 3) lv' st) : zV X nL m pc lv st := by
  obtain ⟨p, l, e, R, s, mI, args, below, meth, c, G, v0, m0⟩ := X
  obtain ⟨rfl, rfl, rfl, rfl, rfl, hx, hb, hml, hown, hts, hK, ⟨hok, hnw⟩, hr, hlk⟩ := hX
  exact fun H locs ls h1 h2 h3 => lv_iinc hx hb hd h3 hk (zI_add a n) hn hl (fun ls' h3 => k H locs ls' h1 h2 h3)
theorem z_iadd (hX : zC X l R G v0 m0 cc nL own ret) {a b : Int} (hd : decode cc pc = .ok (.iadd, 1)) (k : zV X nL m (pc + 1) lv (.int (zI (a + b)) :: st)) : zV X nL m pc lv (.int (zI b) :: .int (zI a) :: st) := by
  obtain ⟨p, l, e, R, s, mI, args, below, meth, c, G, v0, m0⟩ := X
  obtain ⟨rfl, rfl, rfl, rfl, rfl, hx, hb, hml, hown, hts, hK, ⟨hok, hnw⟩, hr, hlk⟩ := hX
  exact fun H locs ls h1 h2 h3 => lv_iadd hx hb hd (by rw [zI_add]; exact k H locs ls h1 h2 h3)
theorem z_isub (hX : zC X l R G v0 m0 cc nL own ret) {a b : Int} (hd : decode cc pc = .ok (.isub, 1)) (k : zV X nL m (pc + 1) lv (.int (zI (a - b)) :: st)) : zV X nL m pc lv (.int (zI b) :: .int (zI a) :: st) := by
  obtain ⟨p, l, e, R, s, mI, args, below, meth, c, G, v0, m0⟩ := X
  obtain ⟨rfl, rfl, rfl, rfl, rfl, hx, hb, hml, hown, hts, hK, ⟨hok, hnw⟩, hr, hlk⟩ := hX
  exact fun H locs ls h1 h2 h3 => lv_isub hx hb hd (by rw [zI_sub]; exact k H locs ls h1 h2 h3)
theorem z_imul (hX : zC X l R G v0 m0 cc nL own ret) {a b : Int} (hd : decode cc pc = .ok (.imul, 1)) (k : zV X nL m (pc + 1) lv (.int (zI (a * b)) :: st)) : zV X nL m pc lv (.int (zI b) :: .int (zI a) :: st) := by
  obtain ⟨p, l, e, R, s, mI, args, below, meth, c, G, v0, m0⟩ := X
  obtain ⟨rfl, rfl, rfl, rfl, rfl, hx, hb, hml, hown, hts, hK, ⟨hok, hnw⟩, hr, hlk⟩ := hX
  exact fun H locs ls h1 h2 h3 => lv_imul hx hb hd (by rw [zI_mul]; exact k H locs ls h1 h2 h3)
end ZV
end
section
section ZW
variable {X : zXT} {l : Launch} {R : Room} {G : zG} {v0 : Option Value} {m0 : zM} {cc : ByteArray} {nL : Nat} {own : String} {ret : Option FieldType}
variable {m : zM} {pc : Nat} {lv lv' : List (Nat × Value)} {st : List Value}
theorem zI_0 : zI 0 = 0 := by decide +kernel
theorem z_goto (hX : zC X l R G v0 m0 cc nL own ret) {off : Int} {tgt : Nat} (hd : decode cc pc = .ok (.goto off, 3)) (ht : (pc : Int) + off = (tgt : Int)) (k : zV X nL m tgt lv st) : zV X nL m pc lv st := by
  obtain ⟨p, l, e, R, s, mI, args, below, meth, cd, G, v0, m0⟩ := X
  obtain ⟨rfl, rfl, rfl, rfl, rfl, hx, hb, hml, hown, hts, hK, ⟨hok, hnw⟩, hr, hlk⟩ := hX
  exact fun H locs ls h1 h2 h3 => lv_goto hx hb hd ht (k H locs ls h1 h2 h3)
theorem z_icmp_eq (hX : zC X l R G v0 m0 cc nL own ret) {a b : Int} {off : Int} {tgt : Nat} (hd : decode cc pc = .ok (.if_icmp .eq off, 3)) (ht : (pc : Int) + off = (tgt : Int)) (kt : zI a = zI b → zV X nL m tgt lv st) (kf : ¬ zI a = zI b → zV X nL m (pc + 3) lv st) : zV X nL m pc lv (.int (zI b) :: .int (zI a) :: st) := by
  obtain ⟨p, l, e, R, s, mI, args, below, meth, cd, G, v0, m0⟩ := X
  obtain ⟨rfl, rfl, rfl, rfl, rfl, hx, hb, hml, hown, hts, hK, ⟨hok, hnw⟩, hr, hlk⟩ := hX
  exact fun H locs ls h1 h2 h3 => lv_icmp_eq hx hb hd ht (fun q => kt (q) H locs ls h1 h2 h3) (fun q => kf (q) H locs ls h1 h2 h3)
theorem z_if_eq (hX : zC X l R G v0 m0 cc nL own ret) {a : Int} {off : Int} {tgt : Nat} (hd : decode cc pc = .ok (.ifCond .eq off, 3)) (ht : (pc : Int) + off = (tgt : Int)) (kt : zI a = zI 0 → zV X nL m tgt lv st) (kf : ¬ zI a = zI 0 → zV X nL m (pc + 3) lv st) : zV X nL m pc lv (.int (zI a) :: st) := by
  obtain ⟨p, l, e, R, s, mI, args, below, meth, cd, G, v0, m0⟩ := X
  obtain ⟨rfl, rfl, rfl, rfl, rfl, hx, hb, hml, hown, hts, hK, ⟨hok, hnw⟩, hr, hlk⟩ := hX
  rw [zI_0] at kt kf
  exact fun H locs ls h1 h2 h3 => lv_if_eq hx hb hd ht (fun q => kt (q) H locs ls h1 h2 h3) (fun q => kf (q) H locs ls h1 h2 h3)
theorem z_icmp_ne (hX : zC X l R G v0 m0 cc nL own ret) {a b : Int} {off : Int} {tgt : Nat} (hd : decode cc pc = .ok (.if_icmp .ne off, 3)) (ht : (pc : Int) + off = (tgt : Int)) (kt : ¬ zI a = zI b → zV X nL m tgt lv st) (kf : zI a = zI b → zV X nL m (pc + 3) lv st) : zV X nL m pc lv (.int (zI b) :: .int (zI a) :: st) := by
  obtain ⟨p, l, e, R, s, mI, args, below, meth, cd, G, v0, m0⟩ := X
  obtain ⟨rfl, rfl, rfl, rfl, rfl, hx, hb, hml, hown, hts, hK, ⟨hok, hnw⟩, hr, hlk⟩ := hX
  exact fun H locs ls h1 h2 h3 => lv_icmp_ne hx hb hd ht (fun q => kt (q) H locs ls h1 h2 h3) (fun q => kf (q) H locs ls h1 h2 h3)
theorem z_if_ne (hX : zC X l R G v0 m0 cc nL own ret) {a : Int} {off : Int} {tgt : Nat} (hd : decode cc pc = .ok (.ifCond .ne off, 3)) (ht : (pc : Int) + off = (tgt : Int)) (kt : ¬ zI a = zI 0 → zV X nL m tgt lv st) (kf : zI a = zI 0 → zV X nL m (pc + 3) lv st) : zV X nL m pc lv (.int (zI a) :: st) := by
  obtain ⟨p, l, e, R, s, mI, args, below, meth, cd, G, v0, m0⟩ := X
  obtain ⟨rfl, rfl, rfl, rfl, rfl, hx, hb, hml, hown, hts, hK, ⟨hok, hnw⟩, hr, hlk⟩ := hX
  rw [zI_0] at kt kf
  exact fun H locs ls h1 h2 h3 => lv_if_ne hx hb hd ht (fun q => kt (q) H locs ls h1 h2 h3) (fun q => kf (q) H locs ls h1 h2 h3)
theorem z_icmp_lt (hX : zC X l R G v0 m0 cc nL own ret) {a b : Int} {off : Int} {tgt : Nat} (hd : decode cc pc = .ok (.if_icmp .lt off, 3)) (ht : (pc : Int) + off = (tgt : Int)) (kt : zI a < zI b → zV X nL m tgt lv st) (kf : ¬ zI a < zI b → zV X nL m (pc + 3) lv st) : zV X nL m pc lv (.int (zI b) :: .int (zI a) :: st) := by
  obtain ⟨p, l, e, R, s, mI, args, below, meth, cd, G, v0, m0⟩ := X
  obtain ⟨rfl, rfl, rfl, rfl, rfl, hx, hb, hml, hown, hts, hK, ⟨hok, hnw⟩, hr, hlk⟩ := hX
  exact fun H locs ls h1 h2 h3 => lv_icmp_lt hx hb hd ht (fun q => kt (q) H locs ls h1 h2 h3) (fun q => kf (q) H locs ls h1 h2 h3)
theorem z_if_lt (hX : zC X l R G v0 m0 cc nL own ret) {a : Int} {off : Int} {tgt : Nat} (hd : decode cc pc = .ok (.ifCond .lt off, 3)) (ht : (pc : Int) + off = (tgt : Int)) (kt : zI a < zI 0 → zV X nL m tgt lv st) (kf : ¬ zI a < zI 0 → zV X nL m (pc + 3) lv st) : zV X nL m pc lv (.int (zI a) :: st) := by
  obtain ⟨p, l, e, R, s, mI, args, below, meth, cd, G, v0, m0⟩ := X
  obtain ⟨rfl, rfl, rfl, rfl, rfl, hx, hb, hml, hown, hts, hK, ⟨hok, hnw⟩, hr, hlk⟩ := hX
  rw [zI_0] at kt kf
  exact fun H locs ls h1 h2 h3 => lv_if_lt hx hb hd ht (fun q => kt (q) H locs ls h1 h2 h3) (fun q => kf (q) H locs ls h1 h2 h3)
theorem z_icmp_ge (hX : zC X l R G v0 m0 cc nL own ret) {a b : Int} {off : Int} {tgt : Nat} (hd : decode cc pc = .ok (.if_icmp .ge off, 3)) (ht : (pc : Int) + off = (tgt : Int)) (kt : ¬ zI a < zI b → zV X nL m tgt lv st) (kf : zI a < zI b → zV X nL m (pc + 3) lv st) : zV X nL m pc lv (.int (zI b) :: .int (zI a) :: st) := by
  obtain ⟨p, l, e, R, s, mI, args, below, meth, cd, G, v0, m0⟩ := X
  obtain ⟨rfl, rfl, rfl, rfl, rfl, hx, hb, hml, hown, hts, hK, ⟨hok, hnw⟩, hr, hlk⟩ := hX
  exact fun H locs ls h1 h2 h3 => lv_icmp_ge hx hb hd ht (fun q => kt (Int32.not_lt.mpr q) H locs ls h1 h2 h3) (fun q => kf (Int32.not_le.mp q) H locs ls h1 h2 h3)
theorem z_if_ge (hX : zC X l R G v0 m0 cc nL own ret) {a : Int} {off : Int} {tgt : Nat} (hd : decode cc pc = .ok (.ifCond .ge off, 3)) (ht : (pc : Int) + off = (tgt : Int)) (kt : ¬ zI a < zI 0 → zV X nL m tgt lv st) (kf : zI a < zI 0 → zV X nL m (pc + 3) lv st) : zV X nL m pc lv (.int (zI a) :: st) := by
  obtain ⟨p, l, e, R, s, mI, args, below, meth, cd, G, v0, m0⟩ := X
  obtain ⟨rfl, rfl, rfl, rfl, rfl, hx, hb, hml, hown, hts, hK, ⟨hok, hnw⟩, hr, hlk⟩ := hX
  rw [zI_0] at kt kf
  exact fun H locs ls h1 h2 h3 => lv_if_ge hx hb hd ht (fun q => kt (Int32.not_lt.mpr q) H locs ls h1 h2 h3) (fun q => kf (Int32.not_le.mp q) H locs ls h1 h2 h3)
theorem z_icmp_gt (hX : zC X l R G v0 m0 cc nL own ret) {a b : Int} {off : Int} {tgt : Nat} (hd : decode cc pc = .ok (.if_icmp .gt off, 3)) (ht : (pc : Int) + off = (tgt : Int)) (kt : zI b < zI a → zV X nL m tgt lv st) (kf : ¬ zI b < zI a → zV X nL m (pc + 3) lv st) : zV X nL m pc lv (.int (zI b) :: .int (zI a) :: st) := by
  obtain ⟨p, l, e, R, s, mI, args, below, meth, cd, G, v0, m0⟩ := X
  obtain ⟨rfl, rfl, rfl, rfl, rfl, hx, hb, hml, hown, hts, hK, ⟨hok, hnw⟩, hr, hlk⟩ := hX
  exact fun H locs ls h1 h2 h3 => lv_icmp_gt hx hb hd ht (fun q => kt (q) H locs ls h1 h2 h3) (fun q => kf (q) H locs ls h1 h2 h3)
theorem z_if_gt (hX : zC X l R G v0 m0 cc nL own ret) {a : Int} {off : Int} {tgt : Nat} (hd : decode cc pc = .ok (.ifCond .gt off, 3)) (ht : (pc : Int) + off = (tgt : Int)) (kt : zI 0 < zI a → zV X nL m tgt lv st) (kf : ¬ zI 0 < zI a → zV X nL m (pc + 3) lv st) : zV X nL m pc lv (.int (zI a) :: st) := by
  obtain ⟨p, l, e, R, s, mI, args, below, meth, cd, G, v0, m0⟩ := X
  obtain ⟨rfl, rfl, rfl, rfl, rfl, hx, hb, hml, hown, hts, hK, ⟨hok, hnw⟩, hr, hlk⟩ := hX
  rw [zI_0] at kt kf
  exact fun H locs ls h1 h2 h3 => lv_if_gt hx hb hd ht (fun q => kt (q) H locs ls h1 h2 h3) (fun q => kf (q) H locs ls h1 h2 h3)
theorem z_icmp_le (hX : zC X l R G v0 m0 cc nL own ret) {a b : Int} {off : Int} {tgt : Nat} (hd : decode cc pc = .ok (.if_icmp .le off, 3)) (ht : (pc : Int) + off = (tgt : Int)) (kt : ¬ zI b < zI a → zV X nL m tgt lv st) (kf : zI b < zI a → zV X nL m (pc + 3) lv st) : zV X nL m pc lv (.int (zI b) :: .int (zI a) :: st) := by
  obtain ⟨p, l, e, R, s, mI, args, below, meth, cd, G, v0, m0⟩ := X
  obtain ⟨rfl, rfl, rfl, rfl, rfl, hx, hb, hml, hown, hts, hK, ⟨hok, hnw⟩, hr, hlk⟩ := hX
  exact fun H locs ls h1 h2 h3 => lv_icmp_le hx hb hd ht (fun q => kt (Int32.not_lt.mpr q) H locs ls h1 h2 h3) (fun q => kf (Int32.not_le.mp q) H locs ls h1 h2 h3)
theorem z_if_le (hX : zC X l R G v0 m0 cc nL own ret) {a : Int} {off : Int} {tgt : Nat} (hd : decode cc pc = .ok (.ifCond .le off, 3)) (ht : (pc : Int) + off = (tgt : Int)) (kt : ¬ zI 0 < zI a → zV X nL m tgt lv st) (kf : zI 0 < zI a → zV X nL m (pc + 3) lv st) : zV X nL m pc lv (.int (zI a) :: st) := by
  obtain ⟨p, l, e, R, s, mI, args, below, meth, cd, G, v0, m0⟩ := X
  obtain ⟨rfl, rfl, rfl, rfl, rfl, hx, hb, hml, hown, hts, hK, ⟨hok, hnw⟩, hr, hlk⟩ := hX
  rw [zI_0] at kt kf
  exact fun H locs ls h1 h2 h3 => lv_if_le hx hb hd ht (fun q => kt (Int32.not_lt.mpr q) H locs ls h1 h2 h3) (fun q => kf (Int32.not_le.mp q) H locs ls h1 h2 h3)
theorem zl_lt (x y : Int64) : (lg_cmp x y < 0) ↔ x < y := by
  unfold lg_cmp
  simp only [gt_iff_lt, Int64.lt_iff_toInt_lt, ← Int64.toInt_inj]
  by_cases h : y.toInt < x.toInt
  · rw [if_pos h]; simp; omega
  · rw [if_neg h]
    by_cases h2 : x.toInt = y.toInt
    · rw [if_pos h2]; simp; omega
    · rw [if_neg h2]; simp; omega
theorem zl_gt (x y : Int64) : (0 < lg_cmp x y) ↔ y < x := by
  unfold lg_cmp
  simp only [gt_iff_lt, Int64.lt_iff_toInt_lt, ← Int64.toInt_inj]
  by_cases h : y.toInt < x.toInt
  · rw [if_pos h]; simp; omega
  · rw [if_neg h]
    by_cases h2 : x.toInt = y.toInt
    · rw [if_pos h2]; simp; omega
    · rw [if_neg h2]; simp; omega
theorem zl_eq (x y : Int64) : (lg_cmp x y = 0) ↔ x = y := by
  unfold lg_cmp
  simp only [gt_iff_lt, Int64.lt_iff_toInt_lt, ← Int64.toInt_inj]
  by_cases h : y.toInt < x.toInt
  · rw [if_pos h]; simp; omega
  · rw [if_neg h]
    by_cases h2 : x.toInt = y.toInt
    · rw [if_pos h2]; simp; omega
    · rw [if_neg h2]; simp; omega
theorem z_lcmp_eq (hX : zC X l R G v0 m0 cc nL own ret) {a b : Int} {off : Int} {tgt : Nat} (hd0 : decode cc pc = .ok (.lcmp, 1)) (hd : decode cc (pc + 1) = .ok (.ifCond .eq off, 3)) (ht : ((pc + 1 : Nat) : Int) + off = (tgt : Int)) (kt : zJ a = zJ b → zV X nL m tgt lv st) (kf : ¬ zJ a = zJ b → zV X nL m (pc + 4) lv st) : zV X nL m pc lv (.long (zJ b) :: .long (zJ a) :: st) := by
  obtain ⟨p, l, e, R, s, mI, args, below, meth, cd, G, v0, m0⟩ := X
  obtain ⟨rfl, rfl, rfl, rfl, rfl, hx, hb, hml, hown, hts, hK, ⟨hok, hnw⟩, hr, hlk⟩ := hX
  exact fun H locs ls h1 h2 h3 => W.lcmp hx hb hd0 (lv_if_eq hx hb hd ht (fun q => kt ((zl_eq _ _).mp q) H locs ls h1 h2 h3) (fun q => kf (fun h => q ((zl_eq _ _).mpr h)) H locs ls h1 h2 h3))
theorem z_lcmp_ne (hX : zC X l R G v0 m0 cc nL own ret) {a b : Int} {off : Int} {tgt : Nat} (hd0 : decode cc pc = .ok (.lcmp, 1)) (hd : decode cc (pc + 1) = .ok (.ifCond .ne off, 3)) (ht : ((pc + 1 : Nat) : Int) + off = (tgt : Int)) (kt : ¬ zJ a = zJ b → zV X nL m tgt lv st) (kf : zJ a = zJ b → zV X nL m (pc + 4) lv st) : zV X nL m pc lv (.long (zJ b) :: .long (zJ a) :: st) := by
  obtain ⟨p, l, e, R, s, mI, args, below, meth, cd, G, v0, m0⟩ := X
  obtain ⟨rfl, rfl, rfl, rfl, rfl, hx, hb, hml, hown, hts, hK, ⟨hok, hnw⟩, hr, hlk⟩ := hX
  exact fun H locs ls h1 h2 h3 => W.lcmp hx hb hd0 (lv_if_ne hx hb hd ht (fun q => kt (fun h => q ((zl_eq _ _).mpr h)) H locs ls h1 h2 h3) (fun q => kf ((zl_eq _ _).mp q) H locs ls h1 h2 h3))
theorem z_lcmp_lt (hX : zC X l R G v0 m0 cc nL own ret) {a b : Int} {off : Int} {tgt : Nat} (hd0 : decode cc pc = .ok (.lcmp, 1)) (hd : decode cc (pc + 1) = .ok (.ifCond .lt off, 3)) (ht : ((pc + 1 : Nat) : Int) + off = (tgt : Int)) (kt : zJ a < zJ b → zV X nL m tgt lv st) (kf : ¬ zJ a < zJ b → zV X nL m (pc + 4) lv st) : zV X nL m pc lv (.long (zJ b) :: .long (zJ a) :: st) := by
  obtain ⟨p, l, e, R, s, mI, args, below, meth, cd, G, v0, m0⟩ := X
  obtain ⟨rfl, rfl, rfl, rfl, rfl, hx, hb, hml, hown, hts, hK, ⟨hok, hnw⟩, hr, hlk⟩ := hX
  exact fun H locs ls h1 h2 h3 => W.lcmp hx hb hd0 (lv_if_lt hx hb hd ht (fun q => kt ((zl_lt _ _).mp q) H locs ls h1 h2 h3) (fun q => kf (fun h => q ((zl_lt _ _).mpr h)) H locs ls h1 h2 h3))
theorem z_lcmp_ge (hX : zC X l R G v0 m0 cc nL own ret) {a b : Int} {off : Int} {tgt : Nat} (hd0 : decode cc pc = .ok (.lcmp, 1)) (hd : decode cc (pc + 1) = .ok (.ifCond .ge off, 3)) (ht : ((pc + 1 : Nat) : Int) + off = (tgt : Int)) (kt : ¬ zJ a < zJ b → zV X nL m tgt lv st) (kf : zJ a < zJ b → zV X nL m (pc + 4) lv st) : zV X nL m pc lv (.long (zJ b) :: .long (zJ a) :: st) := by
  obtain ⟨p, l, e, R, s, mI, args, below, meth, cd, G, v0, m0⟩ := X
  obtain ⟨rfl, rfl, rfl, rfl, rfl, hx, hb, hml, hown, hts, hK, ⟨hok, hnw⟩, hr, hlk⟩ := hX
  exact fun H locs ls h1 h2 h3 => W.lcmp hx hb hd0 (lv_if_ge hx hb hd ht (fun q => kt (fun h => Int32.not_lt.mpr q ((zl_lt _ _).mpr h)) H locs ls h1 h2 h3) (fun q => kf ((zl_lt _ _).mp (Int32.not_le.mp q)) H locs ls h1 h2 h3))
theorem z_lcmp_gt (hX : zC X l R G v0 m0 cc nL own ret) {a b : Int} {off : Int} {tgt : Nat} (hd0 : decode cc pc = .ok (.lcmp, 1)) (hd : decode cc (pc + 1) = .ok (.ifCond .gt off, 3)) (ht : ((pc + 1 : Nat) : Int) + off = (tgt : Int)) (kt : zJ b < zJ a → zV X nL m tgt lv st) (kf : ¬ zJ b < zJ a → zV X nL m (pc + 4) lv st) : zV X nL m pc lv (.long (zJ b) :: .long (zJ a) :: st) := by
  obtain ⟨p, l, e, R, s, mI, args, below, meth, cd, G, v0, m0⟩ := X
  obtain ⟨rfl, rfl, rfl, rfl, rfl, hx, hb, hml, hown, hts, hK, ⟨hok, hnw⟩, hr, hlk⟩ := hX
  exact fun H locs ls h1 h2 h3 => W.lcmp hx hb hd0 (lv_if_gt hx hb hd ht (fun q => kt ((zl_gt _ _).mp q) H locs ls h1 h2 h3) (fun q => kf (fun h => q ((zl_gt _ _).mpr h)) H locs ls h1 h2 h3))
theorem z_lcmp_le (hX : zC X l R G v0 m0 cc nL own ret) {a b : Int} {off : Int} {tgt : Nat} (hd0 : decode cc pc = .ok (.lcmp, 1)) (hd : decode cc (pc + 1) = .ok (.ifCond .le off, 3)) (ht : ((pc + 1 : Nat) : Int) + off = (tgt : Int)) (kt : ¬ zJ b < zJ a → zV X nL m tgt lv st) (kf : zJ b < zJ a → zV X nL m (pc + 4) lv st) : zV X nL m pc lv (.long (zJ b) :: .long (zJ a) :: st) := by
  obtain ⟨p, l, e, R, s, mI, args, below, meth, cd, G, v0, m0⟩ := X
  obtain ⟨rfl, rfl, rfl, rfl, rfl, hx, hb, hml, hown, hts, hK, ⟨hok, hnw⟩, hr, hlk⟩ := hX
  exact fun H locs ls h1 h2 h3 => W.lcmp hx hb hd0 (lv_if_le hx hb hd ht (fun q => kt (fun h => Int32.not_lt.mpr q ((zl_gt _ _).mpr h)) H locs ls h1 h2 h3) (fun q => kf ((zl_gt _ _).mp (Int32.not_le.mp q)) H locs ls h1 h2 h3))
def zdg (a b : Int) : Prop := 0 ≤ a ∧ a < 2147483648 ∧ 0 < b ∧ b < 2147483648
def zlg (a b : Int) : Prop := 0 ≤ a ∧ a < 9223372036854775808 ∧ 0 < b ∧ b < 9223372036854775808
theorem zI_div {a b : Int} (h : zdg a b) : zI a / zI b = zI (a / b) := by
  obtain ⟨h1, h2, h3, h4⟩ := h
  have e := @Int32.ofInt_tdiv a b (by show (-2147483648 : Int) ≤ a; omega) (by show a ≤ (2147483647 : Int); omega) (by show (-2147483648 : Int) ≤ b; omega) (by show b ≤ (2147483647 : Int); omega)
  rw [Int.tdiv_eq_ediv_of_nonneg h1] at e
  exact e.symm
theorem zI_rem {a b : Int} (h : zdg a b) : zI a - zI a / zI b * zI b = zI (a % b) := by
  rw [zI_div h, zI_mul, zI_sub, Int.emod_def, Int.mul_comm]
theorem zJ_div {a b : Int} (h : zlg a b) : zJ a / zJ b = zJ (a / b) := by
  obtain ⟨h1, h2, h3, h4⟩ := h
  have e := @Int64.ofInt_tdiv a b (by show (-9223372036854775808 : Int) ≤ a; omega) (by show a ≤ (9223372036854775807 : Int); omega) (by show (-9223372036854775808 : Int) ≤ b; omega) (by show b ≤ (9223372036854775807 : Int); omega)
  rw [Int.tdiv_eq_ediv_of_nonneg h1] at e
  exact e.symm
theorem zJ_rem {a b : Int} (h : zlg a b) : zJ a - zJ a / zJ b * zJ b = zJ (a % b) := by
  rw [zJ_div h, zJ_mul, zJ_sub, Int.emod_def, Int.mul_comm]
theorem zI_ne0 {b : Int} (h : 0 < b) (h2 : b < 2147483648) : ¬ zI b = 0 := by
  rw [← zI_0, zI_eq ⟨by omega, h2⟩ ⟨by omega, by omega⟩]; omega
theorem zJ_ne0 {b : Int} (h : 0 < b) (h2 : b < 9223372036854775808) : ¬ zJ b = 0 := by
  intro e
  have e2 := congrArg Int64.toInt e
  rw [zJ_toInt (by omega) h2] at e2
  simp at e2; omega
def zch (a : Int) : Int := ((zI a).toUInt32 % 65536).toInt32.toInt
def zsh (a : Int) : Int := ((zI a).toInt16.toInt32).toInt
def zand (a b : Int) : Int := (zJ a &&& zJ b).toInt
theorem z_idiv (hX : zC X l R G v0 m0 cc nL own ret) {a b : Int} (hg : zdg a b) (hd : decode cc pc = .ok (.idiv, 1)) (k : zV X nL m (pc + 1) lv (.int (zI (a / b)) :: st)) : zV X nL m pc lv (.int (zI b) :: .int (zI a) :: st) := by
  obtain ⟨p, l, e, R, s, mI, args, below, meth, cd, G, v0, m0⟩ := X
  obtain ⟨rfl, rfl, rfl, rfl, rfl, hx, hb, hml, hown, hts, hK, ⟨hok, hnw⟩, hr, hlk⟩ := hX
  exact fun H locs ls h1 h2 h3 => lv_idiv hx hb hd (zI_ne0 hg.2.2.1 hg.2.2.2) (by rw [zI_div hg]; exact k H locs ls h1 h2 h3)
theorem z_irem (hX : zC X l R G v0 m0 cc nL own ret) {a b : Int} (hg : zdg a b) (hd : decode cc pc = .ok (.irem, 1)) (k : zV X nL m (pc + 1) lv (.int (zI (a % b)) :: st)) : zV X nL m pc lv (.int (zI b) :: .int (zI a) :: st) := by
  obtain ⟨p, l, e, R, s, mI, args, below, meth, cd, G, v0, m0⟩ := X
  obtain ⟨rfl, rfl, rfl, rfl, rfl, hx, hb, hml, hown, hts, hK, ⟨hok, hnw⟩, hr, hlk⟩ := hX
  exact fun H locs ls h1 h2 h3 => lv_irem hx hb hd (zI_ne0 hg.2.2.1 hg.2.2.2) (by rw [zI_rem hg]; exact k H locs ls h1 h2 h3)
theorem z_ldiv (hX : zC X l R G v0 m0 cc nL own ret) {a b : Int} (hg : zlg a b) (hd : decode cc pc = .ok (.ldiv, 1)) (k : zV X nL m (pc + 1) lv (.long (zJ (a / b)) :: st)) : zV X nL m pc lv (.long (zJ b) :: .long (zJ a) :: st) := by
  obtain ⟨p, l, e, R, s, mI, args, below, meth, cd, G, v0, m0⟩ := X
  obtain ⟨rfl, rfl, rfl, rfl, rfl, hx, hb, hml, hown, hts, hK, ⟨hok, hnw⟩, hr, hlk⟩ := hX
  exact fun H locs ls h1 h2 h3 => lv_ldiv hx hb hd (zJ_ne0 hg.2.2.1 hg.2.2.2) (by rw [zJ_div hg]; exact k H locs ls h1 h2 h3)
theorem z_lrem (hX : zC X l R G v0 m0 cc nL own ret) {a b : Int} (hg : zlg a b) (hd : decode cc pc = .ok (.lrem, 1)) (k : zV X nL m (pc + 1) lv (.long (zJ (a % b)) :: st)) : zV X nL m pc lv (.long (zJ b) :: .long (zJ a) :: st) := by
  obtain ⟨p, l, e, R, s, mI, args, below, meth, cd, G, v0, m0⟩ := X
  obtain ⟨rfl, rfl, rfl, rfl, rfl, hx, hb, hml, hown, hts, hK, ⟨hok, hnw⟩, hr, hlk⟩ := hX
  exact fun H locs ls h1 h2 h3 => lv_lrem hx hb hd (zJ_ne0 hg.2.2.1 hg.2.2.2) (by rw [zJ_rem hg]; exact k H locs ls h1 h2 h3)
theorem z_ladd (hX : zC X l R G v0 m0 cc nL own ret) {a b : Int} (hd : decode cc pc = .ok (.ladd, 1)) (k : zV X nL m (pc + 1) lv (.long (zJ (a + b)) :: st)) : zV X nL m pc lv (.long (zJ b) :: .long (zJ a) :: st) := by
  obtain ⟨p, l, e, R, s, mI, args, below, meth, cd, G, v0, m0⟩ := X
  obtain ⟨rfl, rfl, rfl, rfl, rfl, hx, hb, hml, hown, hts, hK, ⟨hok, hnw⟩, hr, hlk⟩ := hX
  exact fun H locs ls h1 h2 h3 => lv_ladd hx hb hd (by rw [zJ_add]; exact k H locs ls h1 h2 h3)
theorem z_lmul (hX : zC X l R G v0 m0 cc nL own ret) {a b : Int} (hd : decode cc pc = .ok (.lmul, 1)) (k : zV X nL m (pc + 1) lv (.long (zJ (a * b)) :: st)) : zV X nL m pc lv (.long (zJ b) :: .long (zJ a) :: st) := by
  obtain ⟨p, l, e, R, s, mI, args, below, meth, cd, G, v0, m0⟩ := X
  obtain ⟨rfl, rfl, rfl, rfl, rfl, hx, hb, hml, hown, hts, hK, ⟨hok, hnw⟩, hr, hlk⟩ := hX
  exact fun H locs ls h1 h2 h3 => lv_lmul hx hb hd (by rw [zJ_mul]; exact k H locs ls h1 h2 h3)
theorem z_land (hX : zC X l R G v0 m0 cc nL own ret) {a b : Int} (hd : decode cc pc = .ok (.land, 1)) (k : zV X nL m (pc + 1) lv (.long (zJ (zand a b)) :: st)) : zV X nL m pc lv (.long (zJ b) :: .long (zJ a) :: st) := by
  obtain ⟨p, l, e, R, s, mI, args, below, meth, cd, G, v0, m0⟩ := X
  obtain ⟨rfl, rfl, rfl, rfl, rfl, hx, hb, hml, hown, hts, hK, ⟨hok, hnw⟩, hr, hlk⟩ := hX
  exact fun H locs ls h1 h2 h3 => lv_land hx hb hd (by have q := k H locs ls h1 h2 h3; rw [zand, zJ_self] at q; exact q)
theorem zI_toJ {a : Int} (h : zR a) : (zI a).toInt64 = zJ a := Int32.toInt64_ofInt (by show (-2147483648 : Int) ≤ a; exact h.1) (by show a ≤ (2147483647 : Int); have := h.2; omega)
theorem zJ_toI (a : Int) : (zJ a).toInt32 = zI a := Int64.toInt32_ofInt
theorem z_i2l (hX : zC X l R G v0 m0 cc nL own ret) {a : Int} (hg : zR a) (hd : decode cc pc = .ok (.i2l, 1)) (k : zV X nL m (pc + 1) lv (.long (zJ a) :: st)) : zV X nL m pc lv (.int (zI a) :: st) := by
  obtain ⟨p, l, e, R, s, mI, args, below, meth, cd, G, v0, m0⟩ := X
  obtain ⟨rfl, rfl, rfl, rfl, rfl, hx, hb, hml, hown, hts, hK, ⟨hok, hnw⟩, hr, hlk⟩ := hX
  exact fun H locs ls h1 h2 h3 => lv_i2l hx hb hd (zI_toJ hg) (k H locs ls h1 h2 h3)
theorem z_l2i (hX : zC X l R G v0 m0 cc nL own ret) {a : Int} (hd : decode cc pc = .ok (.l2i, 1)) (k : zV X nL m (pc + 1) lv (.int (zI a) :: st)) : zV X nL m pc lv (.long (zJ a) :: st) := by
  obtain ⟨p, l, e, R, s, mI, args, below, meth, cd, G, v0, m0⟩ := X
  obtain ⟨rfl, rfl, rfl, rfl, rfl, hx, hb, hml, hown, hts, hK, ⟨hok, hnw⟩, hr, hlk⟩ := hX
  exact fun H locs ls h1 h2 h3 => lv_l2i hx hb hd (zJ_toI a) (k H locs ls h1 h2 h3)
theorem z_i2c (hX : zC X l R G v0 m0 cc nL own ret) {a : Int} (hd : decode cc pc = .ok (.i2c, 1)) (k : zV X nL m (pc + 1) lv (.int (zI (zch a)) :: st)) : zV X nL m pc lv (.int (zI a) :: st) := by
  obtain ⟨p, l, e, R, s, mI, args, below, meth, cd, G, v0, m0⟩ := X
  obtain ⟨rfl, rfl, rfl, rfl, rfl, hx, hb, hml, hown, hts, hK, ⟨hok, hnw⟩, hr, hlk⟩ := hX
  exact fun H locs ls h1 h2 h3 => lv_i2c hx hb hd (by rw [zch, zI_self]) (k H locs ls h1 h2 h3)
theorem z_i2s (hX : zC X l R G v0 m0 cc nL own ret) {a : Int} (hd : decode cc pc = .ok (.i2s, 1)) (k : zV X nL m (pc + 1) lv (.int (zI (zsh a)) :: st)) : zV X nL m pc lv (.int (zI a) :: st) := by
  obtain ⟨p, l, e, R, s, mI, args, below, meth, cd, G, v0, m0⟩ := X
  obtain ⟨rfl, rfl, rfl, rfl, rfl, hx, hb, hml, hown, hts, hK, ⟨hok, hnw⟩, hr, hlk⟩ := hX
  exact fun H locs ls h1 h2 h3 => lv_i2s hx hb hd (by rw [zsh, zI_self]) (k H locs ls h1 h2 h3)
theorem z_dup (hX : zC X l R G v0 m0 cc nL own ret) {v : Value} (hd : decode cc pc = .ok (.dup, 1)) (hv : v.category = 1) (k : zV X nL m (pc + 1) lv (v :: v :: st)) : zV X nL m pc lv (v :: st) := by
  obtain ⟨p, l, e, R, s, mI, args, below, meth, cd, G, v0, m0⟩ := X
  obtain ⟨rfl, rfl, rfl, rfl, rfl, hx, hb, hml, hown, hts, hK, ⟨hok, hnw⟩, hr, hlk⟩ := hX
  exact fun H locs ls h1 h2 h3 => lv_dup hx hb hd hv (k H locs ls h1 h2 h3)
theorem z_pop (hX : zC X l R G v0 m0 cc nL own ret) {v : Value} (hd : decode cc pc = .ok (.pop, 1)) (hv : v.category = 1) (k : zV X nL m (pc + 1) lv st) : zV X nL m pc lv (v :: st) := by
  obtain ⟨p, l, e, R, s, mI, args, below, meth, cd, G, v0, m0⟩ := X
  obtain ⟨rfl, rfl, rfl, rfl, rfl, hx, hb, hml, hown, hts, hK, ⟨hok, hnw⟩, hr, hlk⟩ := hX
  exact fun H locs ls h1 h2 h3 => lv_pop hx hb hd hv (k H locs ls h1 h2 h3)
theorem z_pop2 (hX : zC X l R G v0 m0 cc nL own ret) {v : Value} (hd : decode cc pc = .ok (.pop2, 1)) (hv : v.category = 2) (k : zV X nL m (pc + 1) lv st) : zV X nL m pc lv (v :: st) := by
  obtain ⟨p, l, e, R, s, mI, args, below, meth, cd, G, v0, m0⟩ := X
  obtain ⟨rfl, rfl, rfl, rfl, rfl, hx, hb, hml, hown, hts, hK, ⟨hok, hnw⟩, hr, hlk⟩ := hX
  exact fun H locs ls h1 h2 h3 => lv_pop2_2 hx hb hd hv (k H locs ls h1 h2 h3)
/-- a field by its pool entry: class ci of vwCl, slot k -/
def zFl (own : String) (ix ci k : Nat) : Prop := ∃ (C : String) (T : u_T) (N : Nat) (ty : Nat → FieldType), vwCl[ci]? = some (C, T, N) ∧ (∀ w ∈ u_ws C T N, w ∈ zW) ∧ k < N ∧ Cond.fieldLink own ix C (T k).2.1 (T k).2.2.1 ∈ zW ∧ (T k).1 = C ∧ (∀ k, k < N → parseFieldDescriptor (T k).2.2.1 = some (ty k)) ∧ ∀ a, a < N → ∀ b, b < N → a ≠ b → (T a).2.1 ≠ (T b).2.1
/-- .. an int that may be written -/
def zFi (ci k : Nat) : Prop := ∃ (C : String) (T : u_T) (N : Nat), vwCl[ci]? = some (C, T, N) ∧ (T k).2.2.2 = false ∧ parseFieldDescriptor (T k).2.2.1 = some .int
theorem z_get (hX : zC X l R G v0 m0 cc nL own ret) {ix ci j c : Nat} {fs : List Value} {v : Value} (hcl : G.2.1 = vwCl) (hf : zFl own ix ci j) (hc : c < G.2.2.2.1) (he : G.2.2.2.2.1 c (m c) = .inr (ci, fs)) (hv : fs[j]? = some v) (hd : decode cc pc = .ok (.getfield ix, 3)) (k : zV X nL m (pc + 3) lv (v :: st)) : zV X nL m pc lv (.ref (G.2.2.2.2.2 c) :: st) := by
  obtain ⟨p, l, e, R, s, mI, args, below, meth, cd, G, v0, m0⟩ := X
  obtain ⟨rfl, rfl, rfl, rfl, rfl, hx, hb, hml, hown, hts, hK, ⟨hok, hnw⟩, hr, hlk⟩ := hX
  obtain ⟨C, T, N, ty, f1, f2, f3, f4, f5, f6, f7⟩ := hf
  intro H locs ls h1 h2 h3
  refine va_get (T := T) hx hb hts f2 hown hK h1 c (by rw [zws_get hc, he]) (by rw [hcl]; exact f1) j f3 (hts _ f4) (fun _ h => by rw [f5] at h; exact h) hv hd (k H locs ls h1 h2 h3)
theorem z_put (hX : zC X l R G v0 m0 cc nL own ret) {ix ci j c : Nat} {a : Int} {fs : List Value} (hcl : G.2.1 = vwCl) (hf : zFl own ix ci j) (hi : zFi ci j) (hc : c < G.2.2.2.1) (he : G.2.2.2.2.1 c (m c) = .inr (ci, fs)) (hl : j < fs.length) (he2 : G.2.2.2.2.1 c (zuf (m c) j a) = .inr (ci, fs.set j (.int (zI a)))) {m1 : zM} (hm1 : m1 = zup m c j a) (hd : decode cc pc = .ok (.putfield ix, 3)) (k : zV X nL m1 (pc + 3) lv st) : zV X nL m pc lv (.int (zI a) :: .ref (G.2.2.2.2.2 c) :: st) := by
  obtain ⟨p, l, e, R, s, mI, args, below, meth, cd, G, v0, m0⟩ := X
  obtain ⟨rfl, rfl, rfl, rfl, rfl, hx, hb, hml, hown, hts, hK, ⟨hok, hnw⟩, hr, hlk⟩ := hX
  obtain ⟨C, T, N, ty, f1, f2, f3, f4, f5, f6, f7⟩ := hf
  obtain ⟨C', T', N', g1, g2, g3⟩ := hi
  subst hm1
  obtain ⟨rfl, rfl, rfl⟩ : C = C' ∧ T = T' ∧ N = N' := by
    have q := Option.some.inj (f1.symm.trans g1)
    cases q
    exact ⟨rfl, rfl, rfl⟩
  intro H locs ls h1 h2 h3
  refine va_put (T := T) (ty := .int) hx hb hts f2 ty f6 f7 hown hK h1 (zws_D hok) h2 c (by rw [zws_get hc, he]) (by rw [hcl]; exact f1) j f3 (hts _ f4) (fun _ h => by rw [f5] at h; exact h) g2 g3 rfl rfl hl hd (fun H1 locs1 hP hD hS => ?_)
  rw [← he2, zws_set hc] at hP
  exact k H1 locs1 ls hP hS h3
def zInts (G : zG) (c : Nat) (n : Nat) : Prop := c < G.2.2.2.1 ∧ n < 2147483648 ∧ ∃ cA : ClassId, G.2.2.1[0]? = some (cA, .int) ∧ ∀ f : Int → Int, G.2.2.2.2.1 c f = .inl (cA, n, .inl (fun k => zI (f (k : Int))))
def zLongs (G : zG) (c : Nat) (n : Nat) : Prop := c < G.2.2.2.1 ∧ n < 2147483648 ∧ ∃ cA : ClassId, G.2.2.1[1]? = some (cA, .long) ∧ ∀ f : Int → Int, G.2.2.2.2.1 c f = .inl (cA, n, .inr (.inl (fun k => zJ (f (k : Int)))))
def zRefs (G : zG) (c : Nat) (t : Nat) (n : Nat) (g : Nat → Nat) : Prop := c < G.2.2.2.1 ∧ n < 2147483648 ∧ ∃ (cA : ClassId) (C : String), G.2.2.1[t]? = some (cA, .object C) ∧ ∀ f : Int → Int, G.2.2.2.2.1 c f = .inl (cA, n, .inr (.inr (.inr (.inr (fun k => some (G.2.2.2.2.2 (g k)))))))
theorem zuf_nat (f : Int → Int) {i v : Int} (h : 0 ≤ i) : (fun k : Nat => zI (zuf f i v (k : Int))) = upd (fun k : Nat => zI (f (k : Int))) i.toNat (zI v) := by
  funext k
  by_cases hk : (k : Int) = i
  · have : k = i.toNat := by omega
    simp only [zuf, upd, if_pos hk, if_pos this]
  · have : ¬ k = i.toNat := by omega
    simp only [zuf, upd, if_neg hk, if_neg this]
theorem zufL_nat (f : Int → Int) {i v : Int} (h : 0 ≤ i) : (fun k : Nat => zJ (zuf f i v (k : Int))) = vp_updL (fun k : Nat => zJ (f (k : Int))) i.toNat (zJ v) := by
  funext k
  by_cases hk : (k : Int) = i
  · have : k = i.toNat := by omega
    simp only [zuf, vp_updL, if_pos hk, if_pos this]
  · have : ¬ k = i.toNat := by omega
    simp only [zuf, vp_updL, if_neg hk, if_neg this]
theorem z_iald (hX : zC X l R G v0 m0 cc nL own ret) {c n : Nat} {i x : Int} (ha : zInts G c n) (hi : 0 ≤ i ∧ i < (n : Int)) (hx5 : x = m c i) (hd : decode cc pc = .ok (.iaload, 1)) (k : zV X nL m (pc + 1) lv (.int (zI x) :: st)) : zV X nL m pc lv (.int (zI i) :: .ref (G.2.2.2.2.2 c) :: st) := by
  obtain ⟨p, l, e, R, s, mI, args, below, meth, cd, G, v0, m0⟩ := X
  obtain ⟨rfl, rfl, rfl, rfl, rfl, hx, hb, hml, hown, hts, hK, ⟨hok, hnw⟩, hr, hlk⟩ := hX
  obtain ⟨hc, hn, cA, ht, he⟩ := ha
  subst hx5
  intro H locs ls h1 h2 h3
  refine va_iald hx hb hK h1 c 0 (by rw [zws_get hc, he]) ht (zI_in hn hi) hd ?_
  rw [zI_nat hi.1 (by omega), Int.toNat_of_nonneg hi.1]
  exact k H locs ls h1 h2 h3
theorem z_lald (hX : zC X l R G v0 m0 cc nL own ret) {c n : Nat} {i x : Int} (ha : zLongs G c n) (hi : 0 ≤ i ∧ i < (n : Int)) (hx5 : x = m c i) (hd : decode cc pc = .ok (.laload, 1)) (k : zV X nL m (pc + 1) lv (.long (zJ x) :: st)) : zV X nL m pc lv (.int (zI i) :: .ref (G.2.2.2.2.2 c) :: st) := by
  obtain ⟨p, l, e, R, s, mI, args, below, meth, cd, G, v0, m0⟩ := X
  obtain ⟨rfl, rfl, rfl, rfl, rfl, hx, hb, hml, hown, hts, hK, ⟨hok, hnw⟩, hr, hlk⟩ := hX
  obtain ⟨hc, hn, cA, ht, he⟩ := ha
  subst hx5
  intro H locs ls h1 h2 h3
  refine va_lald hx hb hK h1 c 1 (by rw [zws_get hc, he]) ht (zI_in hn hi) hd ?_
  rw [zI_nat hi.1 (by omega), Int.toNat_of_nonneg hi.1]
  exact k H locs ls h1 h2 h3
theorem z_aald (hX : zC X l R G v0 m0 cc nL own ret) {c n t : Nat} {g : Nat → Nat} {i : Int} (ha : zRefs G c t n g) (hi : 0 ≤ i ∧ i < (n : Int)) (hd : decode cc pc = .ok (.aaload, 1)) (k : zV X nL m (pc + 1) lv (.ref (G.2.2.2.2.2 (g i.toNat)) :: st)) : zV X nL m pc lv (.int (zI i) :: .ref (G.2.2.2.2.2 c) :: st) := by
  obtain ⟨p, l, e, R, s, mI, args, below, meth, cd, G, v0, m0⟩ := X
  obtain ⟨rfl, rfl, rfl, rfl, rfl, hx, hb, hml, hown, hts, hK, ⟨hok, hnw⟩, hr, hlk⟩ := hX
  obtain ⟨hc, hn, cA, C, ht, he⟩ := ha
  intro H locs ls h1 h2 h3
  refine va_aldq hx hb hK h1 c t (by rw [zws_get hc, he]) ht (zI_in hn hi) hd ?_
  rw [zI_nat hi.1 (by omega)]
  exact k H locs ls h1 h2 h3
theorem z_iast (hX : zC X l R G v0 m0 cc nL own ret) {c n : Nat} {i a : Int} {m1 : zM} (ha : zInts G c n) (hi : 0 ≤ i ∧ i < (n : Int)) (hm1 : m1 = zup m c i a) (hd : decode cc pc = .ok (.iastore, 1)) (k : zV X nL m1 (pc + 1) lv st) : zV X nL m pc lv (.int (zI a) :: .int (zI i) :: .ref (G.2.2.2.2.2 c) :: st) := by
  obtain ⟨p, l, e, R, s, mI, args, below, meth, cd, G, v0, m0⟩ := X
  obtain ⟨rfl, rfl, rfl, rfl, rfl, hx, hb, hml, hown, hts, hK, ⟨hok, hnw⟩, hr, hlk⟩ := hX
  obtain ⟨hc, hn, cA, ht, he⟩ := ha
  subst hm1
  intro H locs ls h1 h2 h3
  refine va_iast hx hb hK h1 (zws_D hok) h2 c 0 (by rw [zws_get hc, he]) ht (zI_in hn hi) hd (fun H1 locs1 hP hD hS => ?_)
  rw [zI_nat hi.1 (by omega), ← zuf_nat (m c) hi.1, ← he, zws_set hc] at hP
  exact k H1 locs1 ls hP hS h3
theorem z_last (hX : zC X l R G v0 m0 cc nL own ret) {c n : Nat} {i a : Int} {m1 : zM} (ha : zLongs G c n) (hi : 0 ≤ i ∧ i < (n : Int)) (hm1 : m1 = zup m c i a) (hd : decode cc pc = .ok (.lastore, 1)) (k : zV X nL m1 (pc + 1) lv st) : zV X nL m pc lv (.long (zJ a) :: .int (zI i) :: .ref (G.2.2.2.2.2 c) :: st) := by
  obtain ⟨p, l, e, R, s, mI, args, below, meth, cd, G, v0, m0⟩ := X
  obtain ⟨rfl, rfl, rfl, rfl, rfl, hx, hb, hml, hown, hts, hK, ⟨hok, hnw⟩, hr, hlk⟩ := hX
  obtain ⟨hc, hn, cA, ht, he⟩ := ha
  subst hm1
  intro H locs ls h1 h2 h3
  refine va_last hx hb hK h1 (zws_D hok) h2 c 1 (by rw [zws_get hc, he]) ht (zI_in hn hi) hd (fun H1 locs1 hP hD hS => ?_)
  rw [zI_nat hi.1 (by omega), ← zufL_nat (m c) hi.1, ← he, zws_set hc] at hP
  exact k H1 locs1 ls hP hS h3
theorem z_alen (hX : zC X l R G v0 m0 cc nL own ret) {c n : Nat} (ha : zInts G c n) (hd : decode cc pc = .ok (.arraylength, 1)) (k : zV X nL m (pc + 1) lv (.int (zI (n : Int)) :: st)) : zV X nL m pc lv (.ref (G.2.2.2.2.2 c) :: st) := by
  obtain ⟨p, l, e, R, s, mI, args, below, meth, cd, G, v0, m0⟩ := X
  obtain ⟨rfl, rfl, rfl, rfl, rfl, hx, hb, hml, hown, hts, hK, ⟨hok, hnw⟩, hr, hlk⟩ := hX
  obtain ⟨hc, hn, cA, ht, he⟩ := ha
  intro H locs ls h1 h2 h3
  exact va_alen hx hb hK h1 c 0 (by rw [zws_get hc, he]) ht (v := zI (n : Int)) (by rw [zI, Int32.ofInt_eq_ofNat]) hd (k H locs ls h1 h2 h3)
theorem z_alenL (hX : zC X l R G v0 m0 cc nL own ret) {c n : Nat} (ha : zLongs G c n) (hd : decode cc pc = .ok (.arraylength, 1)) (k : zV X nL m (pc + 1) lv (.int (zI (n : Int)) :: st)) : zV X nL m pc lv (.ref (G.2.2.2.2.2 c) :: st) := by
  obtain ⟨p, l, e, R, s, mI, args, below, meth, cd, G, v0, m0⟩ := X
  obtain ⟨rfl, rfl, rfl, rfl, rfl, hx, hb, hml, hown, hts, hK, ⟨hok, hnw⟩, hr, hlk⟩ := hX
  obtain ⟨hc, hn, cA, ht, he⟩ := ha
  intro H locs ls h1 h2 h3
  exact va_alen hx hb hK h1 c 1 (by rw [zws_get hc, he]) ht (v := zI (n : Int)) (by rw [zI, Int32.ofInt_eq_ofNat]) hd (k H locs ls h1 h2 h3)
theorem z_iret (hX : zC X l R G v0 m0 cc nL own ret) {r0 a : Int} (h0 : v0 = some (.int (zI r0))) (hr0 : ret = some .int) (ha : a = r0) (hm : m = m0) (hd : decode cc pc = .ok (.ireturn, 1)) : zV X nL m pc lv [.int (zI a)] := by
  obtain ⟨p, l, e, R, s, mI, args, below, meth, cd, G, v0, m0⟩ := X
  obtain ⟨rfl, rfl, rfl, rfl, rfl, hx, hb, hml, hown, hts, hK, ⟨hok, hnw⟩, hr, hlk⟩ := hX
  subst h0; subst ha; subst hm
  intro H locs ls h1 h2 h3
  exact W.iret hx hb (hr.trans hr0) (fun t ht hW => ⟨rfl, by rw [ht]; exact h1, h2.F ht⟩) h2.2.2 hd hlk
theorem z_zret (hX : zC X l R G v0 m0 cc nL own ret) {r0 a : Int} (h0 : v0 = some (.int (zI r0))) (hr0 : ret = some .boolean) (hz : a = 0 ∨ a = 1) (ha : a = r0) (hm : m = m0) (hd : decode cc pc = .ok (.ireturn, 1)) : zV X nL m pc lv [.int (zI a)] := by
  obtain ⟨p, l, e, R, s, mI, args, below, meth, cd, G, v0, m0⟩ := X
  obtain ⟨rfl, rfl, rfl, rfl, rfl, hx, hb, hml, hown, hts, hK, ⟨hok, hnw⟩, hr, hlk⟩ := hX
  subst h0; subst ha; subst hm
  intro H locs ls h1 h2 h3
  exact W.zret (ty := .boolean) hx hb (hr.trans hr0) (by rcases hz with rfl | rfl <;> decide +kernel) (fun t ht hW => ⟨rfl, by rw [ht]; exact h1, h2.F ht⟩) h2.2.2 hd hlk
theorem z_lret (hX : zC X l R G v0 m0 cc nL own ret) {r0 a : Int} (h0 : v0 = some (.long (zJ r0))) (hr0 : ret = some .long) (ha : a = r0) (hm : m = m0) (hd : decode cc pc = .ok (.lreturn, 1)) : zV X nL m pc lv [.long (zJ a)] := by
  obtain ⟨p, l, e, R, s, mI, args, below, meth, cd, G, v0, m0⟩ := X
  obtain ⟨rfl, rfl, rfl, rfl, rfl, hx, hb, hml, hown, hts, hK, ⟨hok, hnw⟩, hr, hlk⟩ := hX
  subst h0; subst ha; subst hm
  intro H locs ls h1 h2 h3
  exact W.lret hx hb (hr.trans hr0) (fun t ht hW => ⟨rfl, by rw [ht]; exact h1, h2.F ht⟩) h2.2.2 hd hlk
theorem z_vret (hX : zC X l R G v0 m0 cc nL own ret) (h0 : v0 = none) (hr0 : ret = none) (hm : m = m0) (hd : decode cc pc = .ok (.return_, 1)) : zV X nL m pc lv [] := by
  obtain ⟨p, l, e, R, s, mI, args, below, meth, cd, G, v0, m0⟩ := X
  obtain ⟨rfl, rfl, rfl, rfl, rfl, hx, hb, hml, hown, hts, hK, ⟨hok, hnw⟩, hr, hlk⟩ := hX
  subst h0; subst hm
  intro H locs ls h1 h2 h3
  exact W.vret hx hb (hr.trans hr0) (fun t ht hW => ⟨rfl, by rw [ht]; exact h1, h2.F ht⟩) h2.2.2 hd hlk
end ZW
end
section
/-! contracts and calls -/
def zPc (G : zG) (m : zM) (U : State) : Prop := zHold G m U.heap ∧ va_K G.1 G.2.1 G.2.2.1 U ∧ va_Nw zNest U
def zCt (l : Launch) (G : zG) (y : MethodName) (cc : ByteArray) (nL : Nat) (ret : Option FieldType) (rm : Room) (av : List Value) (m : zM) (v0 : Option Value) (m0 : zM) : Prop :=
  Met l y (Cond.code y cc nL ret :: zW) rm (va_Pc av (zPc G m)) (zQ G v0 m0) 0 0 (zA G)
theorem z_of {l : Launch} {G : zG} {y : MethodName} {cc : ByteArray} {nL : Nat} {ret : Option FieldType} {rm : Room} {av : List Value} {m : zM} {v0 : Option Value} {m0 : zM} (hy : plainName y.cls = true) (hG : zGok G) (hn : (lg_sl av).length ≤ nL)
    (body : ∀ X : zXT, zC X l rm G v0 m0 cc nL y.cls ret → zV X nL m 0 (lv_args 0 av) []) : zCt l G y cc nL ret rm av m v0 m0 := by
  refine Met.ofW (cc := cc) (maxL := nL) (ret := ret) hy rfl ?_
  intro p e s mI args below meth c s₁ B hml hv
  obtain ⟨rfl, hP, hK, hN⟩ := hv
  have hts := atoms_spec (ws := Cond.code y cc nL ret :: zW) B.pre
  have hown : s.vm.findClass y.cls = some mI.cls := findClass_of_methodNamed B.named
  have hl := lv_entry av (n := nL) hn
  rw [lg_entry_eq]
  exact body (p, l, e, rm, s, mI, av.toArray, below, meth, c, G, v0, m0) ⟨rfl, rfl, rfl, rfl, rfl, B.exec, B.bytes, hml, hown, fun w h => hts w (List.mem_cons_of_mem _ h), hK, ⟨hG, hN⟩, B.returns, B.notSynchronized⟩ s.heap [] _ hP va_S.rf hl
theorem zPc_blind {G : zG} {m : zM} {av : List Value} : FrameBlind (va_Pc av (zPc G m)) := fun a U g mk q => by
  obtain ⟨q0, q1, q2, q3⟩ := q
  exact ⟨q0, q1, va_K.moved (u := U) (U := U.calling g mk a) (Vm.Alike.refl U.vm) q2, va_Nw.same rfl (rfl : U.vm = (U.calling g mk a).vm) q3⟩
theorem z_goes {p : Program} {l : Launch} {e : Env} {R : Room} {s : State} {mI : MethodId} {args : Array Value} {below : List Frame} {meth : Method} {c : Code} {H : Heap} {locs : List Loc} {Q : State → Prop} {pc : Nat} {ls : Array Slot} {st0 rest : List Value} {G : zG} {v1 : Option Value} {m1 : zM} {a : Array Value}
    (hr : va_Run p l e R s mI args below meth c H locs 0 0 0 0 (F0 mI pc ls st0) rest (zQ G v1 m1 a) (zA G)) (hS : va_S (zA G) s.heap H locs)
    (kk : ∀ (H1 : Heap) (locs1 : List Loc), zHold G m1 H1 → va_S (zA G) s.heap H1 locs1 → W p l e R s mI args below meth c H1 locs1 0 0 Q (F0 mI (pc + 3) ls (v1.toList ++ rest))) : W p l e R s mI args below meth c H locs 0 0 Q (F0 mI pc ls st0) := by
  intro T hT X
  obtain ⟨v, st₀, t, T', L, h0, X', hL, e1, e2, ⟨hv, hh, hz, hk⟩, st⟩ := hr T hT X
  cases hv
  rw [h0] at hz hk
  obtain ⟨t2, a1, b1⟩ := kk T'.heap (locs ++ L) (by rw [e1]; exact hh)
    ⟨Nat.le_trans hS.1 (by rw [e1]; exact hz), fun q h1 h2 => by rw [e1, hk q (Nat.lt_of_lt_of_le h1 hS.1) h2]; exact hS.2.1 q h1 h2, fun q hq => by
      rcases List.mem_append.mp hq with h | h
      · exact hS.2.2 q h
      · exact hL q h⟩ T' rfl X'
  exact ⟨t2, st t2 a1, b1⟩
/-- what the tables say of a call's pool entry -/
def zMv (own : String) (ix ci : Nat) (y : MethodName) (cy : ByteArray) (ny : Nat) (ry : Option FieldType) (n : Nat) : Prop := (∃ T N, vwCl[ci]? = some (y.cls, T, N)) ∧ (Cond.methodLink own ix y ∈ zW ∧ Cond.instanceMethod y ∈ zW ∧ Cond.selects y.cls y y ∈ zW ∧ Cond.initialized y.cls ∈ zW ∧ Cond.code y cy ny ry ∈ zW) ∧ y.cls ≠ "java/lang/invoke/MethodHandle" ∧ y.cls ≠ "java/lang/invoke/VarHandle" ∧ (parseMethodDescriptor y.desc).map (fun d => d.parameters.length) = some n
def zMs (own : String) (ix : Nat) (y : MethodName) (cy : ByteArray) (ny : Nat) (ry : Option FieldType) (n : Nat) : Prop := (Cond.methodLink own ix y ∈ zW ∧ Cond.static y ∈ zW ∧ Cond.initialized y.cls ∈ zW ∧ Cond.code y cy ny ry ∈ zW) ∧ y.cls ≠ "java/lang/invoke/MethodHandle" ∧ y.cls ≠ "java/lang/invoke/VarHandle" ∧ (parseMethodDescriptor y.desc).map (fun d => d.parameters.length) = some n
theorem zW_code {y : MethodName} {cy : ByteArray} {ny : Nat} {ry : Option FieldType} (h : Cond.code y cy ny ry ∈ zW) : GoodIn zW (Cond.code y cy ny ry :: zW) := fun w hw => by
  rcases List.mem_cons.mp hw with rfl | hw
  · exact zW_good h
  · exact zW_good hw
section ZC
variable {X : zXT} {l : Launch} {R : Room} {G : zG} {v0 : Option Value} {m0 : zM} {cc : ByteArray} {nL : Nat} {own : String} {ret : Option FieldType}
variable {m m1 : zM} {pc : Nat} {lv lv' : List (Nat × Value)} {st0 : List Value} {y : MethodName} {cy : ByteArray} {ny : Nat} {ry : Option FieldType} {rm : Room} {ix ci n c : Nat} {r : Option Value} {fs : List Value}
theorem z_callVr (hX : zC X l R G v0 m0 cc nL own ret) {v : Value} (As rest : List Value) (hM : zCt l G y cy ny ry rm (.ref (G.2.2.2.2.2 c) :: As) m (some v) m1) (hcl : G.2.1 = vwCl) (hw : zMv own ix ci y cy ny ry n) (hc : c < G.2.2.2.1) (he : G.2.2.2.2.1 c (m c) = .inr (ci, fs)) (hn : As.length = n) (hst : st0 = As.reverse ++ .ref (G.2.2.2.2.2 c) :: rest) (hrm : rm.cells = 0 ∧ rm.slots = 0) (hR : rm.frames + 1 ≤ R.frames ∧ 8 + (ny + 11) + rm.locals ≤ R.locals) (hsum : (rest.map fun v => v.category).sum ≤ 8) (hd : decode cc pc = .ok (.invokevirtual ix, 3)) (k : zV X nL m1 (pc + 3) lv (v :: rest)) : zV X nL m pc lv st0 := by
  obtain ⟨p, l, e, R, s, mI, args, below, meth, cd, G, v0, m0⟩ := X
  obtain ⟨rfl, rfl, rfl, rfl, rfl, hx, hb, hml, hown, hts, hK, ⟨hok, hnw⟩, hr, hlk⟩ := hX
  obtain ⟨⟨T, N, hci⟩, ⟨w1, w2, w3, w4, w5⟩, hd1, hd2, hd3⟩ := hw
  intro H locs ls h1 h2 h3
  refine z_goes (va_runV (Ts := zW) (As := As) (rest := rest) ⟨hx, hb, hml, hown, hts⟩ hM ⟨callB_of n hts (zW_code w5) rfl hrm.1 hrm.2 (hts _ w4) (hts _ w1) ⟨hd1, hd2, hd3⟩ hR, hts _ w2, hts _ w3⟩ ⟨zPc_blind, va_recv hK h1 (ci := ci) (q0 := c) (by rw [hcl]; exact hci) (by rw [zws_get hc, he]), fun U hU hW => ⟨rfl, by rw [hU]; exact h1, va_K.moved hW.alike hK, va_Nw.warmM hW hnw⟩⟩ rfl hn h3.1 hst (lv_room hsum) hd ⟨Nat.zero_le _, Nat.zero_le _⟩) h2 (fun H1 locs1 hH hS => k H1 locs1 ls hH hS h3)
theorem z_callSr (hX : zC X l R G v0 m0 cc nL own ret) {v : Value} (As rest : List Value) (hM : zCt l G y cy ny ry rm As m (some v) m1) (hw : zMs own ix y cy ny ry n) (hn : As.length = n) (hst : st0 = As.reverse ++ rest) (hrm : rm.cells = 0 ∧ rm.slots = 0) (hR : rm.frames + 1 ≤ R.frames ∧ 8 + (ny + 11) + rm.locals ≤ R.locals) (hsum : (rest.map fun v => v.category).sum ≤ 8) (hd : decode cc pc = .ok (.invokestatic ix, 3)) (k : zV X nL m1 (pc + 3) lv (v :: rest)) : zV X nL m pc lv st0 := by
  obtain ⟨p, l, e, R, s, mI, args, below, meth, cd, G, v0, m0⟩ := X
  obtain ⟨rfl, rfl, rfl, rfl, rfl, hx, hb, hml, hown, hts, hK, ⟨hok, hnw⟩, hr, hlk⟩ := hX
  obtain ⟨⟨w1, w2, w4, w5⟩, hd1, hd2, hd3⟩ := hw
  intro H locs ls h1 h2 h3
  refine z_goes (va_runS (Ts := zW) (As := As) (rest := rest) ⟨hx, hb, hml, hown, hts⟩ hM ⟨callB_of n hts (zW_code w5) rfl hrm.1 hrm.2 (hts _ w4) (hts _ w1) ⟨hd1, hd2, hd3⟩ hR, hts _ w2⟩ ⟨zPc_blind, fun U hU hW => ⟨rfl, by rw [hU]; exact h1, va_K.moved hW.alike hK, va_Nw.warmM hW hnw⟩⟩ rfl hn h3.1 hst (lv_room hsum) hd ⟨Nat.zero_le _, Nat.zero_le _⟩) h2 (fun H1 locs1 hH hS => k H1 locs1 ls hH hS h3)
theorem z_callVv (hX : zC X l R G v0 m0 cc nL own ret) {v : Value} (As rest : List Value) (hM : zCt l G y cy ny ry rm (.ref (G.2.2.2.2.2 c) :: As) m none m1) (hcl : G.2.1 = vwCl) (hw : zMv own ix ci y cy ny ry n) (hc : c < G.2.2.2.1) (he : G.2.2.2.2.1 c (m c) = .inr (ci, fs)) (hn : As.length = n) (hst : st0 = As.reverse ++ .ref (G.2.2.2.2.2 c) :: rest) (hrm : rm.cells = 0 ∧ rm.slots = 0) (hR : rm.frames + 1 ≤ R.frames ∧ 8 + (ny + 11) + rm.locals ≤ R.locals) (hsum : (rest.map fun v => v.category).sum ≤ 8) (hd : decode cc pc = .ok (.invokevirtual ix, 3)) (k : zV X nL m1 (pc + 3) lv (rest)) : zV X nL m pc lv st0 := by
  obtain ⟨p, l, e, R, s, mI, args, below, meth, cd, G, v0, m0⟩ := X
  obtain ⟨rfl, rfl, rfl, rfl, rfl, hx, hb, hml, hown, hts, hK, ⟨hok, hnw⟩, hr, hlk⟩ := hX
  obtain ⟨⟨T, N, hci⟩, ⟨w1, w2, w3, w4, w5⟩, hd1, hd2, hd3⟩ := hw
  intro H locs ls h1 h2 h3
  refine z_goes (va_runV (Ts := zW) (As := As) (rest := rest) ⟨hx, hb, hml, hown, hts⟩ hM ⟨callB_of n hts (zW_code w5) rfl hrm.1 hrm.2 (hts _ w4) (hts _ w1) ⟨hd1, hd2, hd3⟩ hR, hts _ w2, hts _ w3⟩ ⟨zPc_blind, va_recv hK h1 (ci := ci) (q0 := c) (by rw [hcl]; exact hci) (by rw [zws_get hc, he]), fun U hU hW => ⟨rfl, by rw [hU]; exact h1, va_K.moved hW.alike hK, va_Nw.warmM hW hnw⟩⟩ rfl hn h3.1 hst (lv_room hsum) hd ⟨Nat.zero_le _, Nat.zero_le _⟩) h2 (fun H1 locs1 hH hS => k H1 locs1 ls hH hS h3)
theorem z_callSv (hX : zC X l R G v0 m0 cc nL own ret) {v : Value} (As rest : List Value) (hM : zCt l G y cy ny ry rm As m none m1) (hw : zMs own ix y cy ny ry n) (hn : As.length = n) (hst : st0 = As.reverse ++ rest) (hrm : rm.cells = 0 ∧ rm.slots = 0) (hR : rm.frames + 1 ≤ R.frames ∧ 8 + (ny + 11) + rm.locals ≤ R.locals) (hsum : (rest.map fun v => v.category).sum ≤ 8) (hd : decode cc pc = .ok (.invokestatic ix, 3)) (k : zV X nL m1 (pc + 3) lv (rest)) : zV X nL m pc lv st0 := by
  obtain ⟨p, l, e, R, s, mI, args, below, meth, cd, G, v0, m0⟩ := X
  obtain ⟨rfl, rfl, rfl, rfl, rfl, hx, hb, hml, hown, hts, hK, ⟨hok, hnw⟩, hr, hlk⟩ := hX
  obtain ⟨⟨w1, w2, w4, w5⟩, hd1, hd2, hd3⟩ := hw
  intro H locs ls h1 h2 h3
  refine z_goes (va_runS (Ts := zW) (As := As) (rest := rest) ⟨hx, hb, hml, hown, hts⟩ hM ⟨callB_of n hts (zW_code w5) rfl hrm.1 hrm.2 (hts _ w4) (hts _ w1) ⟨hd1, hd2, hd3⟩ hR, hts _ w2⟩ ⟨zPc_blind, fun U hU hW => ⟨rfl, by rw [hU]; exact h1, va_K.moved hW.alike hK, va_Nw.warmM hW hnw⟩⟩ rfl hn h3.1 hst (lv_room hsum) hd ⟨Nat.zero_le _, Nat.zero_le _⟩) h2 (fun H1 locs1 hH hS => k H1 locs1 ls hH hS h3)
theorem z_callN (hX : zC X l R G v0 m0 cc nL own ret) {v : Value} (As rest : List Value) (ho : own = RX4) (hix : ix = 32) (hy : y = yX5_isByte) (hM : zCt l G y cy ny ry rm As m (some v) m1) (hw : Cond.static y ∈ zW ∧ Cond.initialized y.cls ∈ zW ∧ Cond.code y cy ny ry ∈ zW) (hp : (parseMethodDescriptor y.desc).map (fun d => d.parameters.length) = some n) (hn : As.length = n) (hst : st0 = As.reverse ++ rest) (hrm : rm.cells = 0 ∧ rm.slots = 0) (hR : rm.frames + 1 ≤ R.frames ∧ 8 + (ny + 11) + rm.locals ≤ R.locals) (hsum : (rest.map fun v => v.category).sum ≤ 8) (hd : decode cc pc = .ok (.invokestatic ix, 3)) (k : zV X nL m1 (pc + 3) lv (v :: rest)) : zV X nL m pc lv st0 := by
  obtain ⟨p, l, e, R, s, mI, args, below, meth, cd, G, v0, m0⟩ := X
  obtain ⟨rfl, rfl, rfl, rfl, rfl, hx, hb, hml, hown, hts, hK, ⟨hok, hnw⟩, hr, hlk⟩ := hX
  obtain ⟨w2, w4, w5⟩ := hw
  subst ho; subst hix; subst hy
  intro H locs ls h1 h2 h3
  refine z_goes (va_runSN (Ts := zW) (As := As) (rest := rest) (host := "MirrorNodes") ⟨hx, hb, hml, hown, hts⟩ hM ⟨va_cnB n hts (zW_code w5) rfl hrm.1 hrm.2 hnw (hts _ w4) ⟨by decide +kernel, by decide +kernel, hp⟩ hR, hts _ w2, trivial⟩ ⟨zPc_blind, fun U hU hW => ⟨rfl, by rw [hU]; exact h1, va_K.moved hW.alike hK, va_Nw.warmM hW hnw⟩⟩ rfl hn h3.1 hst (lv_room hsum) hd ⟨Nat.zero_le _, Nat.zero_le _⟩) h2 (fun H1 locs1 hH hS => k H1 locs1 ls hH hS h3)
def zcp (f g : Int → Int) (sp dp n : Int) : Int → Int := fun j => if dp ≤ j ∧ j < dp + n then f (sp + (j - dp)) else g j
theorem zcp_nat {α : Type} (mk : Int → α) (f g : Int → Int) {sp dp n : Int} (h1 : 0 ≤ sp) (h2 : 0 ≤ dp) (h3 : 0 ≤ n) : (fun k : Nat => mk (zcp f g sp dp n (k : Int))) = va_cpy (fun k : Nat => mk (f (k : Int))) (fun k : Nat => mk (g (k : Int))) sp.toNat dp.toNat n.toNat := by
  funext k
  by_cases hk : dp ≤ (k : Int) ∧ (k : Int) < dp + n
  · have e : dp.toNat ≤ k ∧ k < dp.toNat + n.toNat := by omega
    simp only [zcp, va_cpy, if_pos hk, if_pos e]
    congr 2
    omega
  · have e : ¬ (dp.toNat ≤ k ∧ k < dp.toNat + n.toNat) := by omega
    simp only [zcp, va_cpy, if_neg hk, if_neg e]
def zMc (own : String) (ix : Nat) : Prop := Cond.methodLink own ix arraycopyName ∈ zW ∧ Cond.native arraycopyName ∈ zW ∧ Cond.static arraycopyName ∈ zW ∧ Cond.initialized "java/lang/System" ∈ zW
def zcg (sp dp n : Int) (n0 n1 : Int) : Prop := 0 ≤ sp ∧ 0 ≤ dp ∧ 0 ≤ n ∧ sp + n ≤ n0 ∧ dp + n ≤ n1
theorem z_copyi (hX : zC X l R G v0 m0 cc nL own ret) {c0 c1 n0 n1 : Nat} {sp dp n : Int} {rest : List Value} {m1 : zM} (ha0 : zInts G c0 n0) (ha1 : zInts G c1 n1) (hw : zMc own ix) (hg : zcg sp dp n n0 n1) (hm1 : m1 = zuc m c1 (zcp (m c0) (m c1) sp dp n)) (hR : 1 ≤ R.frames ∧ (rest.map fun v => v.category).sum + 18 ≤ R.locals) (hd : decode cc pc = .ok (.invokestatic ix, 3)) (k : zV X nL m1 (pc + 3) lv rest) : zV X nL m pc lv (.int (zI n) :: .int (zI dp) :: .ref (G.2.2.2.2.2 c1) :: .int (zI sp) :: .ref (G.2.2.2.2.2 c0) :: rest) := by
  obtain ⟨p, l, e, R, s, mI, args, below, meth, cd, G, v0, m0⟩ := X
  obtain ⟨rfl, rfl, rfl, rfl, rfl, hx, hb, hml, hown, hts, hK, ⟨hok, hnw⟩, hr, hlk⟩ := hX
  obtain ⟨hc0, hn0, cA0, ht0, he0⟩ := ha0
  obtain ⟨hc1, hn1, cA1, ht1, he1⟩ := ha1
  obtain ⟨w1, w2, w3, w4⟩ := hw
  obtain ⟨g1, g2, g3, g4, g5⟩ := hg
  subst hm1
  have e1 : (zI sp).toNatClampNeg = sp.toNat := zI_nat g1 (by omega)
  have e2 : (zI dp).toNatClampNeg = dp.toNat := zI_nat g2 (by omega)
  have e3 : (zI n).toNatClampNeg = n.toNat := zI_nat g3 (by omega)
  intro H locs ls h1 h2 h3
  refine va_copyi hx hb (hml.trans h3.1.symm) hown (hts _ w1) (hts _ w2) (hts _ w3) (hts _ w4) hK h1 (zws_D hok) h2 c0 c1 0 0 (by rw [zws_get hc0, he0]) (by rw [zws_get hc1, he1]) ht0 ht1 rfl (zI_nn g1 (by omega)) (zI_nn g2 (by omega)) (zI_nn g3 (by omega)) (by rw [e1, e3]; omega) (by rw [e2, e3]; omega) (fun _ _ => rfl) hR.1 hR.2 hd (fun H1 locs1 hP hD hS => ?_)
  rw [e1, e2, e3, ← zcp_nat zI (m c0) (m c1) g1 g2 g3] at hP
  have e : cA0 = cA1 := by rw [ht0] at ht1; cases ht1; rfl
  rw [← he1, zws_set hc1] at hP
  exact k H1 locs1 ls hP hS h3
theorem z_copyl (hX : zC X l R G v0 m0 cc nL own ret) {c0 c1 n0 n1 : Nat} {sp dp n : Int} {rest : List Value} {m1 : zM} (ha0 : zLongs G c0 n0) (ha1 : zLongs G c1 n1) (hw : zMc own ix) (hg : zcg sp dp n n0 n1) (hm1 : m1 = zuc m c1 (zcp (m c0) (m c1) sp dp n)) (hR : 1 ≤ R.frames ∧ (rest.map fun v => v.category).sum + 18 ≤ R.locals) (hd : decode cc pc = .ok (.invokestatic ix, 3)) (k : zV X nL m1 (pc + 3) lv rest) : zV X nL m pc lv (.int (zI n) :: .int (zI dp) :: .ref (G.2.2.2.2.2 c1) :: .int (zI sp) :: .ref (G.2.2.2.2.2 c0) :: rest) := by
  obtain ⟨p, l, e, R, s, mI, args, below, meth, cd, G, v0, m0⟩ := X
  obtain ⟨rfl, rfl, rfl, rfl, rfl, hx, hb, hml, hown, hts, hK, ⟨hok, hnw⟩, hr, hlk⟩ := hX
  obtain ⟨hc0, hn0, cA0, ht0, he0⟩ := ha0
  obtain ⟨hc1, hn1, cA1, ht1, he1⟩ := ha1
  obtain ⟨w1, w2, w3, w4⟩ := hw
  obtain ⟨g1, g2, g3, g4, g5⟩ := hg
  subst hm1
  have e1 : (zI sp).toNatClampNeg = sp.toNat := zI_nat g1 (by omega)
  have e2 : (zI dp).toNatClampNeg = dp.toNat := zI_nat g2 (by omega)
  have e3 : (zI n).toNatClampNeg = n.toNat := zI_nat g3 (by omega)
  intro H locs ls h1 h2 h3
  refine va_copyl hx hb (hml.trans h3.1.symm) hown (hts _ w1) (hts _ w2) (hts _ w3) (hts _ w4) hK h1 (zws_D hok) h2 c0 c1 1 1 (by rw [zws_get hc0, he0]) (by rw [zws_get hc1, he1]) ht0 ht1 rfl (zI_nn g1 (by omega)) (zI_nn g2 (by omega)) (zI_nn g3 (by omega)) (by rw [e1, e3]; omega) (by rw [e2, e3]; omega) (fun _ _ => rfl) hR.1 hR.2 hd (fun H1 locs1 hP hD hS => ?_)
  rw [e1, e2, e3, ← zcp_nat zJ (m c0) (m c1) g1 g2 g3] at hP
  have e : cA0 = cA1 := by rw [ht0] at ht1; cases ht1; rfl
  rw [← he1, zws_set hc1] at hP
  exact k H1 locs1 ls hP hS h3
theorem z_tswIn (hX : zC X l R G v0 m0 cc nL own ret) {a dflt hi : Int} {offs : Array Int} {len : Nat} {off : Int} {tgt : Nat} {st : List Value} (j : Nat) (hj : (zI a).toInt = (j : Int) ∧ (j : Int) ≤ hi) (hd : decode cc pc = .ok (.tableswitch dflt 0 hi offs, len)) (ho : offs[j]? = some off) (ht : (pc : Int) + off = (tgt : Int)) (k : zV X nL m tgt lv st) : zV X nL m pc lv (.int (zI a) :: st) := by
  obtain ⟨p, l, e, R, s, mI, args, below, meth, cd, G, v0, m0⟩ := X
  obtain ⟨rfl, rfl, rfl, rfl, rfl, hx, hb, hml, hown, hts, hK, ⟨hok, hnw⟩, hr, hlk⟩ := hX
  intro H locs ls h1 h2 h3
  exact lv_tableIn hx hb hd (by rw [hj.1]; omega) (by rw [hj.1]; have := hj.2; omega) (by rw [hj.1]; simpa using ho) ht (k H locs ls h1 h2 h3)
theorem z_tswOut (hX : zC X l R G v0 m0 cc nL own ret) {a dflt hi : Int} {offs : Array Int} {len : Nat} {tgt : Nat} {st : List Value} (hj : (zI a).toInt < 0 ∨ hi < (zI a).toInt) (hd : decode cc pc = .ok (.tableswitch dflt 0 hi offs, len)) (ht : (pc : Int) + dflt = (tgt : Int)) (k : zV X nL m tgt lv st) : zV X nL m pc lv (.int (zI a) :: st) := by
  obtain ⟨p, l, e, R, s, mI, args, below, meth, cd, G, v0, m0⟩ := X
  obtain ⟨rfl, rfl, rfl, rfl, rfl, hx, hb, hml, hown, hts, hK, ⟨hok, hnw⟩, hr, hlk⟩ := hX
  intro H locs ls h1 h2 h3
  exact lv_tableOut hx hb hd hj ht (k H locs ls h1 h2 h3)
end ZC
theorem z_out3 {a : Int} (h0 : ¬ zI a = zI 0) (h1 : ¬ zI a = zI 1) (h2 : ¬ zI a = zI 2) : (zI a).toInt < 0 ∨ 2 < (zI a).toInt := by
  by_cases h : (zI a).toInt < 0 ∨ 2 < (zI a).toInt
  · exact h
  · exfalso
    have e := zI_self (zI a)
    rcases (show (zI a).toInt = 0 ∨ (zI a).toInt = 1 ∨ (zI a).toInt = 2 by omega) with q | q | q
    · exact h0 (by rw [← e, q])
    · exact h1 (by rw [← e, q])
    · exact h2 (by rw [← e, q])
theorem z_out7 {a : Int} (h0 : ¬ zI a = zI 0) (h1 : ¬ zI a = zI 1) (h2 : ¬ zI a = zI 2) (h3 : ¬ zI a = zI 3) (h4 : ¬ zI a = zI 4) (h5 : ¬ zI a = zI 5) (h6 : ¬ zI a = zI 6) : (zI a).toInt < 0 ∨ 6 < (zI a).toInt := by
  by_cases h : (zI a).toInt < 0 ∨ 6 < (zI a).toInt
  · exact h
  · exfalso
    have e := zI_self (zI a)
    rcases (show (zI a).toInt = 0 ∨ (zI a).toInt = 1 ∨ (zI a).toInt = 2 ∨ (zI a).toInt = 3 ∨ (zI a).toInt = 4 ∨ (zI a).toInt = 5 ∨ (zI a).toInt = 6 by omega) with q | q | q | q | q | q | q
    · exact h0 (by rw [← e, q])
    · exact h1 (by rw [← e, q])
    · exact h2 (by rw [← e, q])
    · exact h3 (by rw [← e, q])
    · exact h4 (by rw [← e, q])
    · exact h5 (by rw [← e, q])
    · exact h6 (by rw [← e, q])
theorem z_out8 {a : Int} (h0 : ¬ zI a = zI 0) (h1 : ¬ zI a = zI 1) (h2 : ¬ zI a = zI 2) (h3 : ¬ zI a = zI 3) (h4 : ¬ zI a = zI 4) (h5 : ¬ zI a = zI 5) (h6 : ¬ zI a = zI 6) (h7 : ¬ zI a = zI 7) : (zI a).toInt < 0 ∨ 7 < (zI a).toInt := by
  by_cases h : (zI a).toInt < 0 ∨ 7 < (zI a).toInt
  · exact h
  · exfalso
    have e := zI_self (zI a)
    rcases (show (zI a).toInt = 0 ∨ (zI a).toInt = 1 ∨ (zI a).toInt = 2 ∨ (zI a).toInt = 3 ∨ (zI a).toInt = 4 ∨ (zI a).toInt = 5 ∨ (zI a).toInt = 6 ∨ (zI a).toInt = 7 by omega) with q | q | q | q | q | q | q | q
    · exact h0 (by rw [← e, q])
    · exact h1 (by rw [← e, q])
    · exact h2 (by rw [← e, q])
    · exact h3 (by rw [← e, q])
    · exact h4 (by rw [← e, q])
    · exact h5 (by rw [← e, q])
    · exact h6 (by rw [← e, q])
    · exact h7 (by rw [← e, q])
/-! what the pure words are made of -/
section ZP
variable {α β : Type}
def zfu : Nat := 4000
def zlp {γ : Type} (B : γ → γ) (z : γ) : Nat → γ
  | 0 => z
  | n + 1 => B (zlp B z n)
def zjn {γ : Type} (t : γ) (b : γ → Option α) : Option α := b t
theorem zjn_s {γ : Type} {t : γ} {b : γ → Option α} {q : α} (h : zjn t b = some q) (P : γ → Prop) (hP : P t) : ∃ j, P j ∧ b j = some q := ⟨t, hP, h⟩
def zrd (m : zM) (c : Nat) (i n : Int) (k : Int → Option α) : Option α := if 0 ≤ i ∧ i < n then k (m c i) else none
def zwr (m : zM) (c : Nat) (i v n : Int) (k : zM → Option α) : Option α := if 0 ≤ i ∧ i < n then k (zup m c i v) else none
def zpf (m : zM) (c : Nat) (i v : Int) (k : zM → Option α) : Option α := k (zup m c i v)
def zix (i n : Int) (k : Option α) : Option α := if 0 ≤ i ∧ i < n then k else none
def zcl (x : Option α) (k : α → Option β) : Option β := match x with | some a => k a | none => none
def zcl2 (x : Option (Int × zM)) (k : Int → zM → Option β) : Option β := match x with | some (a, m) => k a m | none => none
def zgd (g : Prop) [Decidable g] (k : Option α) : Option α := if g then k else none
def zcpy (m : zM) (c0 c1 : Nat) (sp dp n n0 n1 : Int) (k : zM → Option α) : Option α := if 0 ≤ sp ∧ 0 ≤ dp ∧ 0 ≤ n ∧ sp + n ≤ n0 ∧ dp + n ≤ n1 then k (zuc m c1 (zcp (m c0) (m c1) sp dp n)) else none
theorem zrd_s {m : zM} {c : Nat} {i n : Int} {k : Int → Option α} {q : α} (h : zrd m c i n k = some q) : ∃ x, x = m c i ∧ (0 ≤ i ∧ i < n) ∧ k x = some q := by
  unfold zrd at h
  split at h
  · exact ⟨_, rfl, by assumption, h⟩
  · cases h
theorem zwr_s {m : zM} {c : Nat} {i v n : Int} {k : zM → Option α} {q : α} (h : zwr m c i v n k = some q) : ∃ x, x = zup m c i v ∧ (0 ≤ i ∧ i < n) ∧ k x = some q := by
  unfold zwr at h
  split at h
  · exact ⟨_, rfl, by assumption, h⟩
  · cases h
theorem zpf_s {m : zM} {c : Nat} {i v : Int} {k : zM → Option α} {q : α} (h : zpf m c i v k = some q) : ∃ x, x = zup m c i v ∧ k x = some q := ⟨_, rfl, h⟩
theorem zix_s {i n : Int} {k : Option α} {q : α} (h : zix i n k = some q) : (0 ≤ i ∧ i < n) ∧ k = some q := by
  unfold zix at h
  split at h
  · exact ⟨by assumption, h⟩
  · cases h
theorem zcl_s {x : Option α} {k : α → Option β} {q : β} (h : zcl x k = some q) : ∃ a, x = some a ∧ k a = some q := by
  unfold zcl at h
  split at h
  · exact ⟨_, rfl, h⟩
  · cases h
theorem zcl2_s {x : Option (Int × zM)} {k : Int → zM → Option β} {q : β} (h : zcl2 x k = some q) : ∃ a m, x = some (a, m) ∧ k a m = some q := by
  unfold zcl2 at h
  split at h
  · exact ⟨_, _, rfl, h⟩
  · cases h
theorem zgd_s {g : Prop} [Decidable g] {k : Option α} {q : α} (h : zgd g k = some q) : g ∧ k = some q := by
  unfold zgd at h
  split at h
  · exact ⟨by assumption, h⟩
  · cases h
theorem zcpy_s {m : zM} {c0 c1 : Nat} {sp dp n n0 n1 : Int} {k : zM → Option α} {q : α} (h : zcpy m c0 c1 sp dp n n0 n1 k = some q) : ∃ x, x = zuc m c1 (zcp (m c0) (m c1) sp dp n) ∧ zcg sp dp n n0 n1 ∧ k x = some q := by
  unfold zcpy at h
  split at h
  · exact ⟨_, rfl, by assumption, h⟩
  · cases h
end ZP
end
section
/-! the two worlds -/
def zcatO (ad : Nat → Nat) (o : Nat) (f : Int → Int) : va_E := .inr (1, [.ref (ad (o + 1)), .ref (ad (o + 2)), .ref (ad (o + 3)), .ref (ad (o + 4)), .ref (ad (o + 5)), .ref (ad (o + 6)), .ref (ad (o + 7)), .ref (ad (o + 8)), .ref (ad (o + 9)), .int (zI (f 9)), .int (zI (f 10))])
def zrowO (ad : Nat → Nat) (o : Nat) (f : Int → Int) : va_E := .inr (3, [.ref (ad (o + 1)), .int (zI (f 1))])
def zshtO (ad : Nat → Nat) (o : Nat) (f : Int → Int) : va_E := .inr (4, [.ref (ad (o + 1)), .int (zI (f 1)), .int (zI (f 2))])
def zintE (ca : Nat → ClassId) (n : Nat) (f : Int → Int) : va_E := .inl (ca 0, n, .inl (fun k => zI (f (k : Int))))
def zlngE (ca : Nat → ClassId) (n : Nat) (f : Int → Int) : va_E := .inl (ca 1, n, .inr (.inl (fun k => zJ (f (k : Int)))))
def zrefE (ca : Nat → ClassId) (ad : Nat → Nat) (t n b : Nat) : va_E := .inl (ca t, n, .inr (.inr (.inr (.inr (fun k => some (ad (b + 2 * k)))))))
def zeC (ca : Nat → ClassId) (ad : Nat → Nat) (c : Nat) (f : Int → Int) : va_E := match c with
  | 0 => .inr (5, [.ref (ad 1), .ref (ad 11), .ref (ad 21), .ref (ad 25), .ref (ad 28), .ref (ad 33), .ref (ad 35), .ref (ad 44), .ref (ad 45)])
  | 1 => zcatO ad 1 f
  | 2 => zintE ca 48 f
  | 3 => zintE ca 48 f
  | 4 => zintE ca 50 f
  | 5 => zintE ca 50 f
  | 6 => zintE ca 50 f
  | 7 => zintE ca 50 f
  | 8 => zintE ca 50 f
  | 9 => zintE ca 50 f
  | 10 => zintE ca 300 f
  | 11 => zcatO ad 11 f
  | 12 => zintE ca 48 f
  | 13 => zintE ca 48 f
  | 14 => zintE ca 50 f
  | 15 => zintE ca 50 f
  | 16 => zintE ca 50 f
  | 17 => zintE ca 50 f
  | 18 => zintE ca 50 f
  | 19 => zintE ca 50 f
  | 20 => zintE ca 300 f
  | 21 => .inr (0, [.ref (ad 22), .ref (ad 23), .ref (ad 24), .int (zI (f 3))])
  | 22 => zintE ca 24 f
  | 23 => zintE ca 24 f
  | 24 => zintE ca 24 f
  | 25 => .inr (2, [.ref (ad 26), .ref (ad 27)])
  | 26 => zintE ca 49 f
  | 27 => zintE ca 49 f
  | 28 => zrefE ca ad 2 2 29
  | 29 => zrowO ad 29 f
  | 30 => zintE ca 48 f
  | 31 => zrowO ad 31 f
  | 32 => zintE ca 48 f
  | 33 => zrowO ad 33 f
  | 34 => zintE ca 48 f
  | 35 => zrefE ca ad 3 4 36
  | 36 => zshtO ad 36 f
  | 37 => zlngE ca 48 f
  | 38 => zshtO ad 38 f
  | 39 => zlngE ca 48 f
  | 40 => zshtO ad 40 f
  | 41 => zlngE ca 48 f
  | 42 => zshtO ad 42 f
  | 43 => zlngE ca 48 f
  | 44 => zintE ca 3 f
  | _ => zintE ca 48 f
def zeM (ca : Nat → ClassId) (ad : Nat → Nat) (c : Nat) (f : Int → Int) : va_E := match c with
  | 0 => .inr (6, [.int (zI (f 0)), .ref (ad 1), .int (zI (f 2)), .ref (ad 2), .ref (ad 3), .ref (ad 4), .int (zI (f 6)), .ref (ad 5), .ref (ad 6), .ref (ad 7), .ref (ad 8), .ref (ad 9), .int (zI (f 12)), .ref (ad 10), .ref (ad 11), .ref (ad 12), .ref (ad 13), .ref (ad 14)])
  | 1 => zintE ca 48 f
  | 2 => zintE ca 24 f
  | 3 => zintE ca 96 f
  | 4 => zintE ca 2 f
  | 5 => zintE ca 48 f
  | 6 => zintE ca 4 f
  | 7 => zintE ca 4 f
  | 8 => zlngE ca 192 f
  | 9 => zlngE ca 48 f
  | 10 => zintE ca 48 f
  | 11 => zintE ca 48 f
  | 12 => zintE ca 49 f
  | 13 => zintE ca 3 f
  | _ => zintE ca 48 f
abbrev ztys (ca : Nat → ClassId) : List (ClassId × FieldType) := [(ca 0, .int), (ca 1, .long), (ca 2, .object "MirrorNodes$Row"), (ca 3, .object "MirrorNodes$Sheet")]
abbrev zGC (D : va_G) (ca : Nat → ClassId) (ad : Nat → Nat) : zG := (D, vwCl, ztys ca, 46, zeC ca ad, ad)
abbrev zGM (D : va_G) (ca : Nat → ClassId) (ad : Nat → Nat) : zG := (D, vwCl, ztys ca, 15, zeM ca ad, ad)
def zCat (o : Nat) : Prop := o = 1 ∨ o = 11
def zRow (o : Nat) : Prop := o = 29 ∨ o = 31 ∨ o = 33
def zSht (o : Nat) : Prop := o = 36 ∨ o = 38 ∨ o = 40 ∨ o = 42
section ZG
variable {D : va_G} {ca : Nat → ClassId} {ad : Nat → Nat} {o : Nat} {m : zM} {f : Int → Int} {a : Int}
theorem zCat_lt (h : zCat o) : o < 46 := by rcases h with rfl | rfl <;> decide
theorem zRow_lt (h : zRow o) : o < 46 := by rcases h with rfl | rfl | rfl <;> decide
theorem zSht_lt (h : zSht o) : o < 46 := by rcases h with rfl | rfl | rfl | rfl <;> decide
theorem zCat_e (h : zCat o) : zeC ca ad o f = .inr (1, [.ref (ad (o + 1)), .ref (ad (o + 2)), .ref (ad (o + 3)), .ref (ad (o + 4)), .ref (ad (o + 5)), .ref (ad (o + 6)), .ref (ad (o + 7)), .ref (ad (o + 8)), .ref (ad (o + 9)), .int (zI (f 9)), .int (zI (f 10))]) := by rcases h with rfl | rfl <;> rfl
theorem zRow_e (h : zRow o) : zeC ca ad o f = .inr (3, [.ref (ad (o + 1)), .int (zI (f 1))]) := by rcases h with rfl | rfl | rfl <;> rfl
theorem zSht_e (h : zSht o) : zeC ca ad o f = .inr (4, [.ref (ad (o + 1)), .int (zI (f 1)), .int (zI (f 2))]) := by rcases h with rfl | rfl | rfl | rfl <;> rfl
theorem zMain_e : zeC ca ad 0 f = .inr (5, [.ref (ad 1), .ref (ad 11), .ref (ad 21), .ref (ad 25), .ref (ad 28), .ref (ad 33), .ref (ad 35), .ref (ad 44), .ref (ad 45)]) := rfl
theorem zActs_e : zeC ca ad 21 f = .inr (0, [.ref (ad 22), .ref (ad 23), .ref (ad 24), .int (zI (f 3))]) := rfl
theorem zCut_e : zeC ca ad 25 f = .inr (2, [.ref (ad 26), .ref (ad 27)]) := rfl
theorem zMod_e : zeM ca ad 0 f = .inr (6, [.int (zI (f 0)), .ref (ad 1), .int (zI (f 2)), .ref (ad 2), .ref (ad 3), .ref (ad 4), .int (zI (f 6)), .ref (ad 5), .ref (ad 6), .ref (ad 7), .ref (ad 8), .ref (ad 9), .int (zI (f 12)), .ref (ad 10), .ref (ad 11), .ref (ad 12), .ref (ad 13), .ref (ad 14)]) := rfl
theorem zuf_s (f : Int → Int) (i v : Int) : zuf f i v i = v := by simp [zuf]
theorem zuf_n (f : Int → Int) {i j : Int} (v : Int) (h : j ≠ i) : zuf f i v j = f j := by simp [zuf, h]
theorem zCat_p9 (h : zCat o) : zeC ca ad o (zuf f (9 : Nat) a) = .inr (1, [.ref (ad (o + 1)), .ref (ad (o + 2)), .ref (ad (o + 3)), .ref (ad (o + 4)), .ref (ad (o + 5)), .ref (ad (o + 6)), .ref (ad (o + 7)), .ref (ad (o + 8)), .ref (ad (o + 9)), .int (zI (f 9)), .int (zI (f 10))].set 9 (.int (zI a))) := by rw [zCat_e h]; simp [zuf]
theorem zCat_p10 (h : zCat o) : zeC ca ad o (zuf f (10 : Nat) a) = .inr (1, [.ref (ad (o + 1)), .ref (ad (o + 2)), .ref (ad (o + 3)), .ref (ad (o + 4)), .ref (ad (o + 5)), .ref (ad (o + 6)), .ref (ad (o + 7)), .ref (ad (o + 8)), .ref (ad (o + 9)), .int (zI (f 9)), .int (zI (f 10))].set 10 (.int (zI a))) := by rw [zCat_e h]; simp [zuf]
theorem zRow_p1 (h : zRow o) : zeC ca ad o (zuf f (1 : Nat) a) = .inr (3, [.ref (ad (o + 1)), .int (zI (f 1))].set 1 (.int (zI a))) := by rw [zRow_e h]; simp [zuf]
theorem zSht_p1 (h : zSht o) : zeC ca ad o (zuf f (1 : Nat) a) = .inr (4, [.ref (ad (o + 1)), .int (zI (f 1)), .int (zI (f 2))].set 1 (.int (zI a))) := by rw [zSht_e h]; simp [zuf]
theorem zSht_p2 (h : zSht o) : zeC ca ad o (zuf f (2 : Nat) a) = .inr (4, [.ref (ad (o + 1)), .int (zI (f 1)), .int (zI (f 2))].set 2 (.int (zI a))) := by rw [zSht_e h]; simp [zuf]
theorem zActs_p3 : zeC ca ad 21 (zuf f (3 : Nat) a) = .inr (0, [.ref (ad 22), .ref (ad 23), .ref (ad 24), .int (zI (f 3))].set 3 (.int (zI a))) := by rw [zActs_e]; simp [zuf]
theorem zMod_p0 : zeM ca ad 0 (zuf f (0 : Nat) a) = .inr (6, [.int (zI (f 0)), .ref (ad 1), .int (zI (f 2)), .ref (ad 2), .ref (ad 3), .ref (ad 4), .int (zI (f 6)), .ref (ad 5), .ref (ad 6), .ref (ad 7), .ref (ad 8), .ref (ad 9), .int (zI (f 12)), .ref (ad 10), .ref (ad 11), .ref (ad 12), .ref (ad 13), .ref (ad 14)].set 0 (.int (zI a))) := by rw [zMod_e]; simp [zuf]
theorem zMod_p2 : zeM ca ad 0 (zuf f (2 : Nat) a) = .inr (6, [.int (zI (f 0)), .ref (ad 1), .int (zI (f 2)), .ref (ad 2), .ref (ad 3), .ref (ad 4), .int (zI (f 6)), .ref (ad 5), .ref (ad 6), .ref (ad 7), .ref (ad 8), .ref (ad 9), .int (zI (f 12)), .ref (ad 10), .ref (ad 11), .ref (ad 12), .ref (ad 13), .ref (ad 14)].set 2 (.int (zI a))) := by rw [zMod_e]; simp [zuf]
theorem zMod_p6 : zeM ca ad 0 (zuf f (6 : Nat) a) = .inr (6, [.int (zI (f 0)), .ref (ad 1), .int (zI (f 2)), .ref (ad 2), .ref (ad 3), .ref (ad 4), .int (zI (f 6)), .ref (ad 5), .ref (ad 6), .ref (ad 7), .ref (ad 8), .ref (ad 9), .int (zI (f 12)), .ref (ad 10), .ref (ad 11), .ref (ad 12), .ref (ad 13), .ref (ad 14)].set 6 (.int (zI a))) := by rw [zMod_e]; simp [zuf]
theorem zMod_p12 : zeM ca ad 0 (zuf f (12 : Nat) a) = .inr (6, [.int (zI (f 0)), .ref (ad 1), .int (zI (f 2)), .ref (ad 2), .ref (ad 3), .ref (ad 4), .int (zI (f 6)), .ref (ad 5), .ref (ad 6), .ref (ad 7), .ref (ad 8), .ref (ad 9), .int (zI (f 12)), .ref (ad 10), .ref (ad 11), .ref (ad 12), .ref (ad 13), .ref (ad 14)].set 12 (.int (zI a))) := by rw [zMod_e]; simp [zuf]
theorem zCat_a1 (h : zCat o) : zInts (zGC D ca ad) (o + 1) 48 := by rcases h with rfl | rfl <;> exact ⟨Nat.le_of_ble_eq_true rfl, by decide, ca 0, rfl, fun _ => rfl⟩
theorem zCat_a2 (h : zCat o) : zInts (zGC D ca ad) (o + 2) 48 := by rcases h with rfl | rfl <;> exact ⟨Nat.le_of_ble_eq_true rfl, by decide, ca 0, rfl, fun _ => rfl⟩
theorem zCat_a3 (h : zCat o) : zInts (zGC D ca ad) (o + 3) 50 := by rcases h with rfl | rfl <;> exact ⟨Nat.le_of_ble_eq_true rfl, by decide, ca 0, rfl, fun _ => rfl⟩
theorem zCat_a4 (h : zCat o) : zInts (zGC D ca ad) (o + 4) 50 := by rcases h with rfl | rfl <;> exact ⟨Nat.le_of_ble_eq_true rfl, by decide, ca 0, rfl, fun _ => rfl⟩
theorem zCat_a5 (h : zCat o) : zInts (zGC D ca ad) (o + 5) 50 := by rcases h with rfl | rfl <;> exact ⟨Nat.le_of_ble_eq_true rfl, by decide, ca 0, rfl, fun _ => rfl⟩
theorem zCat_a6 (h : zCat o) : zInts (zGC D ca ad) (o + 6) 50 := by rcases h with rfl | rfl <;> exact ⟨Nat.le_of_ble_eq_true rfl, by decide, ca 0, rfl, fun _ => rfl⟩
theorem zCat_a7 (h : zCat o) : zInts (zGC D ca ad) (o + 7) 50 := by rcases h with rfl | rfl <;> exact ⟨Nat.le_of_ble_eq_true rfl, by decide, ca 0, rfl, fun _ => rfl⟩
theorem zCat_a8 (h : zCat o) : zInts (zGC D ca ad) (o + 8) 50 := by rcases h with rfl | rfl <;> exact ⟨Nat.le_of_ble_eq_true rfl, by decide, ca 0, rfl, fun _ => rfl⟩
theorem zCat_a9 (h : zCat o) : zInts (zGC D ca ad) (o + 9) 300 := by rcases h with rfl | rfl <;> exact ⟨Nat.le_of_ble_eq_true rfl, by decide, ca 0, rfl, fun _ => rfl⟩
theorem zRow_a1 (h : zRow o) : zInts (zGC D ca ad) (o + 1) 48 := by rcases h with rfl | rfl | rfl <;> exact ⟨Nat.le_of_ble_eq_true rfl, by decide, ca 0, rfl, fun _ => rfl⟩
theorem zSht_a1 (h : zSht o) : zLongs (zGC D ca ad) (o + 1) 48 := by rcases h with rfl | rfl | rfl | rfl <;> exact ⟨Nat.le_of_ble_eq_true rfl, by decide, ca 1, rfl, fun _ => rfl⟩
theorem zCi22 : zInts (zGC D ca ad) 22 24 := ⟨Nat.le_of_ble_eq_true rfl, by decide, ca 0, rfl, fun _ => rfl⟩
theorem zCi23 : zInts (zGC D ca ad) 23 24 := ⟨Nat.le_of_ble_eq_true rfl, by decide, ca 0, rfl, fun _ => rfl⟩
theorem zCi24 : zInts (zGC D ca ad) 24 24 := ⟨Nat.le_of_ble_eq_true rfl, by decide, ca 0, rfl, fun _ => rfl⟩
theorem zCi26 : zInts (zGC D ca ad) 26 49 := ⟨Nat.le_of_ble_eq_true rfl, by decide, ca 0, rfl, fun _ => rfl⟩
theorem zCi27 : zInts (zGC D ca ad) 27 49 := ⟨Nat.le_of_ble_eq_true rfl, by decide, ca 0, rfl, fun _ => rfl⟩
theorem zCi44 : zInts (zGC D ca ad) 44 3 := ⟨Nat.le_of_ble_eq_true rfl, by decide, ca 0, rfl, fun _ => rfl⟩
theorem zCi45 : zInts (zGC D ca ad) 45 48 := ⟨Nat.le_of_ble_eq_true rfl, by decide, ca 0, rfl, fun _ => rfl⟩
theorem zCr28 : zRefs (zGC D ca ad) 28 2 2 (fun k => 29 + 2 * k) := ⟨Nat.le_of_ble_eq_true rfl, by decide, ca 2, _, rfl, fun _ => rfl⟩
theorem zCr35 : zRefs (zGC D ca ad) 35 3 4 (fun k => 36 + 2 * k) := ⟨Nat.le_of_ble_eq_true rfl, by decide, ca 3, _, rfl, fun _ => rfl⟩
theorem zMi1 : zInts (zGM D ca ad) 1 48 := ⟨Nat.le_of_ble_eq_true rfl, by decide, ca 0, rfl, fun _ => rfl⟩
theorem zMi2 : zInts (zGM D ca ad) 2 24 := ⟨Nat.le_of_ble_eq_true rfl, by decide, ca 0, rfl, fun _ => rfl⟩
theorem zMi3 : zInts (zGM D ca ad) 3 96 := ⟨Nat.le_of_ble_eq_true rfl, by decide, ca 0, rfl, fun _ => rfl⟩
theorem zMi4 : zInts (zGM D ca ad) 4 2 := ⟨Nat.le_of_ble_eq_true rfl, by decide, ca 0, rfl, fun _ => rfl⟩
theorem zMi5 : zInts (zGM D ca ad) 5 48 := ⟨Nat.le_of_ble_eq_true rfl, by decide, ca 0, rfl, fun _ => rfl⟩
theorem zMi6 : zInts (zGM D ca ad) 6 4 := ⟨Nat.le_of_ble_eq_true rfl, by decide, ca 0, rfl, fun _ => rfl⟩
theorem zMi7 : zInts (zGM D ca ad) 7 4 := ⟨Nat.le_of_ble_eq_true rfl, by decide, ca 0, rfl, fun _ => rfl⟩
theorem zMi10 : zInts (zGM D ca ad) 10 48 := ⟨Nat.le_of_ble_eq_true rfl, by decide, ca 0, rfl, fun _ => rfl⟩
theorem zMi11 : zInts (zGM D ca ad) 11 48 := ⟨Nat.le_of_ble_eq_true rfl, by decide, ca 0, rfl, fun _ => rfl⟩
theorem zMi12 : zInts (zGM D ca ad) 12 49 := ⟨Nat.le_of_ble_eq_true rfl, by decide, ca 0, rfl, fun _ => rfl⟩
theorem zMi13 : zInts (zGM D ca ad) 13 3 := ⟨Nat.le_of_ble_eq_true rfl, by decide, ca 0, rfl, fun _ => rfl⟩
theorem zMi14 : zInts (zGM D ca ad) 14 48 := ⟨Nat.le_of_ble_eq_true rfl, by decide, ca 0, rfl, fun _ => rfl⟩
theorem zMi8 : zLongs (zGM D ca ad) 8 192 := ⟨Nat.le_of_ble_eq_true rfl, by decide, ca 1, rfl, fun _ => rfl⟩
theorem zMi9 : zLongs (zGM D ca ad) 9 48 := ⟨Nat.le_of_ble_eq_true rfl, by decide, ca 1, rfl, fun _ => rfl⟩
theorem zRow_k {i : Int} (h : 0 ≤ i ∧ i < 2) : zRow (29 + 2 * i.toNat) := by
  rcases (show i = 0 ∨ i = 1 by omega) with rfl | rfl
  · exact Or.inl rfl
  · exact Or.inr (Or.inl rfl)
theorem zSht_k {i : Int} (h : 0 ≤ i ∧ i < 4) : zSht (36 + 2 * i.toNat) := by
  rcases (show i = 0 ∨ i = 1 ∨ i = 2 ∨ i = 3 by omega) with rfl | rfl | rfl | rfl
  · exact Or.inl rfl
  · exact Or.inr (Or.inl rfl)
  · exact Or.inr (Or.inr (Or.inl rfl))
  · exact Or.inr (Or.inr (Or.inr rfl))
end ZG
end
section
theorem zW_all (ws : List Cond) (ps : List Nat) (hp : ws = ps.filterMap (fun i => lw_tbl[i]?)) (h : ws.all goodWord = true) : ∀ w ∈ ws, w ∈ zW := by
  intro w hw
  have h1 := List.all_eq_true.mp h w hw
  rw [hp] at hw
  obtain ⟨i, -, hi⟩ := List.mem_filterMap.mp hw
  exact List.mem_filter.mpr ⟨List.mem_of_getElem? hi, h1⟩
theorem ziX0 : ∀ w ∈ u_ws RX0 TX0 4, w ∈ zW := zW_all _ [122, 124, 126, 128] (by decide +kernel) (by decide +kernel)
theorem zfi_0_3 : zFi 0 3 := ⟨RX0, TX0, 4, rfl, rfl, by decide +kernel⟩
theorem ziX1 : ∀ w ∈ u_ws RX1 TX1 11, w ∈ zW := zW_all _ [87, 89, 91, 93, 95, 97, 99, 101, 103, 105, 107] (by decide +kernel) (by decide +kernel)
theorem zfi_1_9 : zFi 1 9 := ⟨RX1, TX1, 11, rfl, rfl, by decide +kernel⟩
theorem zfi_1_10 : zFi 1 10 := ⟨RX1, TX1, 11, rfl, rfl, by decide +kernel⟩
theorem ziX2 : ∀ w ∈ u_ws RX2 TX2 2, w ∈ zW := zW_all _ [139, 141] (by decide +kernel) (by decide +kernel)
theorem ziX3 : ∀ w ∈ u_ws RX3 TX3 2, w ∈ zW := zW_all _ [155, 157] (by decide +kernel) (by decide +kernel)
theorem zfi_3_1 : zFi 3 1 := ⟨RX3, TX3, 2, rfl, rfl, by decide +kernel⟩
theorem ziX4 : ∀ w ∈ u_ws RX4 TX4 3, w ∈ zW := zW_all _ [173, 175, 177] (by decide +kernel) (by decide +kernel)
theorem zfi_4_1 : zFi 4 1 := ⟨RX4, TX4, 3, rfl, rfl, by decide +kernel⟩
theorem zfi_4_2 : zFi 4 2 := ⟨RX4, TX4, 3, rfl, rfl, by decide +kernel⟩
theorem ziX5 : ∀ w ∈ u_ws RX5 TX5 9, w ∈ zW := zW_all _ [190, 192, 194, 196, 198, 200, 202, 204, 206] (by decide +kernel) (by decide +kernel)
theorem ziX6 : ∀ w ∈ u_ws RX6 TX6 18, w ∈ zW := zW_all _ [587, 589, 591, 593, 595, 597, 599, 601, 603, 605, 607, 609, 611, 613, 615, 617, 619, 621] (by decide +kernel) (by decide +kernel)
theorem zfi_6_0 : zFi 6 0 := ⟨RX6, TX6, 18, rfl, rfl, by decide +kernel⟩
theorem zfi_6_2 : zFi 6 2 := ⟨RX6, TX6, 18, rfl, rfl, by decide +kernel⟩
theorem zfi_6_6 : zFi 6 6 := ⟨RX6, TX6, 18, rfl, rfl, by decide +kernel⟩
theorem zfi_6_12 : zFi 6 12 := ⟨RX6, TX6, 18, rfl, rfl, by decide +kernel⟩
theorem zfl_RX1_9 : zFl RX1 9 1 0 := ⟨RX1, TX1, 11, tyX1, rfl, ziX1, by decide, zW_mem 63 (by decide +kernel) rfl, rfl, tyX1_ok, nmX1⟩
theorem zfl_RX5_86 : zFl RX5 86 1 0 := ⟨RX1, TX1, 11, tyX1, rfl, ziX1, by decide, zW_mem 64 (by decide +kernel) rfl, rfl, tyX1_ok, nmX1⟩
theorem zfl_RX1_15 : zFl RX1 15 1 1 := ⟨RX1, TX1, 11, tyX1, rfl, ziX1, by decide, zW_mem 65 (by decide +kernel) rfl, rfl, tyX1_ok, nmX1⟩
theorem zfl_RX2_28 : zFl RX2 28 1 1 := ⟨RX1, TX1, 11, tyX1, rfl, ziX1, by decide, zW_mem 66 (by decide +kernel) rfl, rfl, tyX1_ok, nmX1⟩
theorem zfl_RX5_160 : zFl RX5 160 1 1 := ⟨RX1, TX1, 11, tyX1, rfl, ziX1, by decide, zW_mem 67 (by decide +kernel) rfl, rfl, tyX1_ok, nmX1⟩
theorem zfl_RX1_18 : zFl RX1 18 1 2 := ⟨RX1, TX1, 11, tyX1, rfl, ziX1, by decide, zW_mem 68 (by decide +kernel) rfl, rfl, tyX1_ok, nmX1⟩
theorem zfl_RX2_36 : zFl RX2 36 1 2 := ⟨RX1, TX1, 11, tyX1, rfl, ziX1, by decide, zW_mem 69 (by decide +kernel) rfl, rfl, tyX1_ok, nmX1⟩
theorem zfl_RX5_101 : zFl RX5 101 1 2 := ⟨RX1, TX1, 11, tyX1, rfl, ziX1, by decide, zW_mem 70 (by decide +kernel) rfl, rfl, tyX1_ok, nmX1⟩
theorem zfl_RX1_21 : zFl RX1 21 1 3 := ⟨RX1, TX1, 11, tyX1, rfl, ziX1, by decide, zW_mem 71 (by decide +kernel) rfl, rfl, tyX1_ok, nmX1⟩
theorem zfl_RX2_39 : zFl RX2 39 1 3 := ⟨RX1, TX1, 11, tyX1, rfl, ziX1, by decide, zW_mem 72 (by decide +kernel) rfl, rfl, tyX1_ok, nmX1⟩
theorem zfl_RX5_114 : zFl RX5 114 1 3 := ⟨RX1, TX1, 11, tyX1, rfl, ziX1, by decide, zW_mem 73 (by decide +kernel) rfl, rfl, tyX1_ok, nmX1⟩
theorem zfl_RX1_24 : zFl RX1 24 1 4 := ⟨RX1, TX1, 11, tyX1, rfl, ziX1, by decide, zW_mem 74 (by decide +kernel) rfl, rfl, tyX1_ok, nmX1⟩
theorem zfl_RX5_123 : zFl RX5 123 1 4 := ⟨RX1, TX1, 11, tyX1, rfl, ziX1, by decide, zW_mem 75 (by decide +kernel) rfl, rfl, tyX1_ok, nmX1⟩
theorem zfl_RX1_27 : zFl RX1 27 1 5 := ⟨RX1, TX1, 11, tyX1, rfl, ziX1, by decide, zW_mem 76 (by decide +kernel) rfl, rfl, tyX1_ok, nmX1⟩
theorem zfl_RX5_126 : zFl RX5 126 1 5 := ⟨RX1, TX1, 11, tyX1, rfl, ziX1, by decide, zW_mem 77 (by decide +kernel) rfl, rfl, tyX1_ok, nmX1⟩
theorem zfl_RX1_30 : zFl RX1 30 1 6 := ⟨RX1, TX1, 11, tyX1, rfl, ziX1, by decide, zW_mem 78 (by decide +kernel) rfl, rfl, tyX1_ok, nmX1⟩
theorem zfl_RX1_33 : zFl RX1 33 1 7 := ⟨RX1, TX1, 11, tyX1, rfl, ziX1, by decide, zW_mem 79 (by decide +kernel) rfl, rfl, tyX1_ok, nmX1⟩
theorem zfl_RX2_33 : zFl RX2 33 1 7 := ⟨RX1, TX1, 11, tyX1, rfl, ziX1, by decide, zW_mem 80 (by decide +kernel) rfl, rfl, tyX1_ok, nmX1⟩
theorem zfl_RX5_163 : zFl RX5 163 1 7 := ⟨RX1, TX1, 11, tyX1, rfl, ziX1, by decide, zW_mem 81 (by decide +kernel) rfl, rfl, tyX1_ok, nmX1⟩
theorem zfl_RX1_36 : zFl RX1 36 1 8 := ⟨RX1, TX1, 11, tyX1, rfl, ziX1, by decide, zW_mem 82 (by decide +kernel) rfl, rfl, tyX1_ok, nmX1⟩
theorem zfl_RX1_45 : zFl RX1 45 1 9 := ⟨RX1, TX1, 11, tyX1, rfl, ziX1, by decide, zW_mem 83 (by decide +kernel) rfl, rfl, tyX1_ok, nmX1⟩
theorem zfl_RX5_64 : zFl RX5 64 1 9 := ⟨RX1, TX1, 11, tyX1, rfl, ziX1, by decide, zW_mem 84 (by decide +kernel) rfl, rfl, tyX1_ok, nmX1⟩
theorem zfl_RX1_59 : zFl RX1 59 1 10 := ⟨RX1, TX1, 11, tyX1, rfl, ziX1, by decide, zW_mem 85 (by decide +kernel) rfl, rfl, tyX1_ok, nmX1⟩
theorem zfl_RX5_148 : zFl RX5 148 1 10 := ⟨RX1, TX1, 11, tyX1, rfl, ziX1, by decide, zW_mem 86 (by decide +kernel) rfl, rfl, tyX1_ok, nmX1⟩
theorem zfl_RX0_9 : zFl RX0 9 0 0 := ⟨RX0, TX0, 4, tyX0, rfl, ziX0, by decide, zW_mem 117 (by decide +kernel) rfl, rfl, tyX0_ok, nmX0⟩
theorem zfl_RX0_13 : zFl RX0 13 0 1 := ⟨RX0, TX0, 4, tyX0, rfl, ziX0, by decide, zW_mem 118 (by decide +kernel) rfl, rfl, tyX0_ok, nmX0⟩
theorem zfl_RX0_16 : zFl RX0 16 0 2 := ⟨RX0, TX0, 4, tyX0, rfl, ziX0, by decide, zW_mem 119 (by decide +kernel) rfl, rfl, tyX0_ok, nmX0⟩
theorem zfl_RX0_19 : zFl RX0 19 0 3 := ⟨RX0, TX0, 4, tyX0, rfl, ziX0, by decide, zW_mem 120 (by decide +kernel) rfl, rfl, tyX0_ok, nmX0⟩
theorem zfl_RX5_93 : zFl RX5 93 0 3 := ⟨RX0, TX0, 4, tyX0, rfl, ziX0, by decide, zW_mem 121 (by decide +kernel) rfl, rfl, tyX0_ok, nmX0⟩
theorem zfl_RX2_9 : zFl RX2 9 2 0 := ⟨RX2, TX2, 2, tyX2, rfl, ziX2, by decide, zW_mem 137 (by decide +kernel) rfl, rfl, tyX2_ok, nmX2⟩
theorem zfl_RX2_15 : zFl RX2 15 2 1 := ⟨RX2, TX2, 2, tyX2, rfl, ziX2, by decide, zW_mem 138 (by decide +kernel) rfl, rfl, tyX2_ok, nmX2⟩
theorem zfl_RX3_9 : zFl RX3 9 3 0 := ⟨RX3, TX3, 2, tyX3, rfl, ziX3, by decide, zW_mem 151 (by decide +kernel) rfl, rfl, tyX3_ok, nmX3⟩
theorem zfl_RX5_138 : zFl RX5 138 3 0 := ⟨RX3, TX3, 2, tyX3, rfl, ziX3, by decide, zW_mem 152 (by decide +kernel) rfl, rfl, tyX3_ok, nmX3⟩
theorem zfl_RX3_15 : zFl RX3 15 3 1 := ⟨RX3, TX3, 2, tyX3, rfl, ziX3, by decide, zW_mem 153 (by decide +kernel) rfl, rfl, tyX3_ok, nmX3⟩
theorem zfl_RX5_137 : zFl RX5 137 3 1 := ⟨RX3, TX3, 2, tyX3, rfl, ziX3, by decide, zW_mem 154 (by decide +kernel) rfl, rfl, tyX3_ok, nmX3⟩
theorem zfl_RX4_9 : zFl RX4 9 4 0 := ⟨RX4, TX4, 3, tyX4, rfl, ziX4, by decide, zW_mem 167 (by decide +kernel) rfl, rfl, tyX4_ok, nmX4⟩
theorem zfl_RX5_241 : zFl RX5 241 4 0 := ⟨RX4, TX4, 3, tyX4, rfl, ziX4, by decide, zW_mem 168 (by decide +kernel) rfl, rfl, tyX4_ok, nmX4⟩
theorem zfl_RX4_25 : zFl RX4 25 4 1 := ⟨RX4, TX4, 3, tyX4, rfl, ziX4, by decide, zW_mem 169 (by decide +kernel) rfl, rfl, tyX4_ok, nmX4⟩
theorem zfl_RX5_238 : zFl RX5 238 4 1 := ⟨RX4, TX4, 3, tyX4, rfl, ziX4, by decide, zW_mem 170 (by decide +kernel) rfl, rfl, tyX4_ok, nmX4⟩
theorem zfl_RX4_15 : zFl RX4 15 4 2 := ⟨RX4, TX4, 3, tyX4, rfl, ziX4, by decide, zW_mem 171 (by decide +kernel) rfl, rfl, tyX4_ok, nmX4⟩
theorem zfl_RX5_227 : zFl RX5 227 4 2 := ⟨RX4, TX4, 3, tyX4, rfl, ziX4, by decide, zW_mem 172 (by decide +kernel) rfl, rfl, tyX4_ok, nmX4⟩
theorem zfl_RX5_12 : zFl RX5 12 5 0 := ⟨RX5, TX5, 9, tyX5, rfl, ziX5, by decide, zW_mem 181 (by decide +kernel) rfl, rfl, tyX5_ok, nmX5⟩
theorem zfl_RX5_16 : zFl RX5 16 5 1 := ⟨RX5, TX5, 9, tyX5, rfl, ziX5, by decide, zW_mem 182 (by decide +kernel) rfl, rfl, tyX5_ok, nmX5⟩
theorem zfl_RX5_22 : zFl RX5 22 5 2 := ⟨RX5, TX5, 9, tyX5, rfl, ziX5, by decide, zW_mem 183 (by decide +kernel) rfl, rfl, tyX5_ok, nmX5⟩
theorem zfl_RX5_29 : zFl RX5 29 5 3 := ⟨RX5, TX5, 9, tyX5, rfl, ziX5, by decide, zW_mem 184 (by decide +kernel) rfl, rfl, tyX5_ok, nmX5⟩
theorem zfl_RX5_35 : zFl RX5 35 5 4 := ⟨RX5, TX5, 9, tyX5, rfl, ziX5, by decide, zW_mem 185 (by decide +kernel) rfl, rfl, tyX5_ok, nmX5⟩
theorem zfl_RX5_42 : zFl RX5 42 5 5 := ⟨RX5, TX5, 9, tyX5, rfl, ziX5, by decide, zW_mem 186 (by decide +kernel) rfl, rfl, tyX5_ok, nmX5⟩
theorem zfl_RX5_48 : zFl RX5 48 5 6 := ⟨RX5, TX5, 9, tyX5, rfl, ziX5, by decide, zW_mem 187 (by decide +kernel) rfl, rfl, tyX5_ok, nmX5⟩
theorem zfl_RX5_53 : zFl RX5 53 5 7 := ⟨RX5, TX5, 9, tyX5, rfl, ziX5, by decide, zW_mem 188 (by decide +kernel) rfl, rfl, tyX5_ok, nmX5⟩
theorem zfl_RX5_57 : zFl RX5 57 5 8 := ⟨RX5, TX5, 9, tyX5, rfl, ziX5, by decide, zW_mem 189 (by decide +kernel) rfl, rfl, tyX5_ok, nmX5⟩
theorem zfl_RX6_69 : zFl RX6 69 6 0 := ⟨RX6, TX6, 18, tyX6, rfl, ziX6, by decide, zW_mem 569 (by decide +kernel) rfl, rfl, tyX6_ok, nmX6⟩
theorem zfl_RX6_7 : zFl RX6 7 6 1 := ⟨RX6, TX6, 18, tyX6, rfl, ziX6, by decide, zW_mem 570 (by decide +kernel) rfl, rfl, tyX6_ok, nmX6⟩
theorem zfl_RX6_94 : zFl RX6 94 6 2 := ⟨RX6, TX6, 18, tyX6, rfl, ziX6, by decide, zW_mem 571 (by decide +kernel) rfl, rfl, tyX6_ok, nmX6⟩
theorem zfl_RX6_13 : zFl RX6 13 6 3 := ⟨RX6, TX6, 18, tyX6, rfl, ziX6, by decide, zW_mem 572 (by decide +kernel) rfl, rfl, tyX6_ok, nmX6⟩
theorem zfl_RX6_16 : zFl RX6 16 6 4 := ⟨RX6, TX6, 18, tyX6, rfl, ziX6, by decide, zW_mem 573 (by decide +kernel) rfl, rfl, tyX6_ok, nmX6⟩
theorem zfl_RX6_19 : zFl RX6 19 6 5 := ⟨RX6, TX6, 18, tyX6, rfl, ziX6, by decide, zW_mem 574 (by decide +kernel) rfl, rfl, tyX6_ok, nmX6⟩
theorem zfl_RX6_168 : zFl RX6 168 6 6 := ⟨RX6, TX6, 18, tyX6, rfl, ziX6, by decide, zW_mem 575 (by decide +kernel) rfl, rfl, tyX6_ok, nmX6⟩
theorem zfl_RX6_22 : zFl RX6 22 6 7 := ⟨RX6, TX6, 18, tyX6, rfl, ziX6, by decide, zW_mem 576 (by decide +kernel) rfl, rfl, tyX6_ok, nmX6⟩
theorem zfl_RX6_25 : zFl RX6 25 6 8 := ⟨RX6, TX6, 18, tyX6, rfl, ziX6, by decide, zW_mem 577 (by decide +kernel) rfl, rfl, tyX6_ok, nmX6⟩
theorem zfl_RX6_28 : zFl RX6 28 6 9 := ⟨RX6, TX6, 18, tyX6, rfl, ziX6, by decide, zW_mem 578 (by decide +kernel) rfl, rfl, tyX6_ok, nmX6⟩
theorem zfl_RX6_31 : zFl RX6 31 6 10 := ⟨RX6, TX6, 18, tyX6, rfl, ziX6, by decide, zW_mem 579 (by decide +kernel) rfl, rfl, tyX6_ok, nmX6⟩
theorem zfl_RX6_35 : zFl RX6 35 6 11 := ⟨RX6, TX6, 18, tyX6, rfl, ziX6, by decide, zW_mem 580 (by decide +kernel) rfl, rfl, tyX6_ok, nmX6⟩
theorem zfl_RX6_65 : zFl RX6 65 6 12 := ⟨RX6, TX6, 18, tyX6, rfl, ziX6, by decide, zW_mem 581 (by decide +kernel) rfl, rfl, tyX6_ok, nmX6⟩
theorem zfl_RX6_38 : zFl RX6 38 6 13 := ⟨RX6, TX6, 18, tyX6, rfl, ziX6, by decide, zW_mem 582 (by decide +kernel) rfl, rfl, tyX6_ok, nmX6⟩
theorem zfl_RX6_41 : zFl RX6 41 6 14 := ⟨RX6, TX6, 18, tyX6, rfl, ziX6, by decide, zW_mem 583 (by decide +kernel) rfl, rfl, tyX6_ok, nmX6⟩
theorem zfl_RX6_44 : zFl RX6 44 6 15 := ⟨RX6, TX6, 18, tyX6, rfl, ziX6, by decide, zW_mem 584 (by decide +kernel) rfl, rfl, tyX6_ok, nmX6⟩
theorem zfl_RX6_47 : zFl RX6 47 6 16 := ⟨RX6, TX6, 18, tyX6, rfl, ziX6, by decide, zW_mem 585 (by decide +kernel) rfl, rfl, tyX6_ok, nmX6⟩
theorem zfl_RX6_50 : zFl RX6 50 6 17 := ⟨RX6, TX6, 18, tyX6, rfl, ziX6, by decide, zW_mem 586 (by decide +kernel) rfl, rfl, tyX6_ok, nmX6⟩
set_option maxRecDepth 20000 in
theorem zms_RX1_39 : zMs RX1 39 yJ7_fill_53178 cJ7_fill_53178 4 none 2 := ⟨⟨zW_mem 60 (by decide +kernel) rfl, zW_mem 61 (by decide +kernel) rfl, zW_mem 38 (by decide +kernel) rfl, zW_mem 62 (by rfl) rfl⟩, by decide +kernel, by decide +kernel, by decide +kernel⟩
set_option maxRecDepth 20000 in
theorem zmv_RL_13 : zMv RL 13 5 yX5_put cX5_put 2 (some .int) 1 := ⟨⟨TX5, 9, rfl⟩, ⟨zW_mem 209 (by decide +kernel) rfl, zW_mem 210 (by decide +kernel) rfl, zW_mem 211 (by decide +kernel) rfl, zW_mem 36 (by decide +kernel) rfl, zW_mem 212 (by rfl) rfl⟩, by decide +kernel, by decide +kernel, by decide +kernel⟩
set_option maxRecDepth 20000 in
theorem zms_RX5_60 : zMs RX5 60 yX5_isLetter cX5_isLetter 1 (some .boolean) 1 := ⟨⟨zW_mem 213 (by decide +kernel) rfl, zW_mem 214 (by decide +kernel) rfl, zW_mem 36 (by decide +kernel) rfl, zW_mem 215 (by rfl) rfl⟩, by decide +kernel, by decide +kernel, by decide +kernel⟩
set_option maxRecDepth 20000 in
theorem zms_RX5_129 : zMs RX5 129 yX5_within cX5_within 3 (some .boolean) 3 := ⟨⟨zW_mem 216 (by decide +kernel) rfl, zW_mem 217 (by decide +kernel) rfl, zW_mem 36 (by decide +kernel) rfl, zW_mem 218 (by rfl) rfl⟩, by decide +kernel, by decide +kernel, by decide +kernel⟩
set_option maxRecDepth 20000 in
theorem zmv_RX5_68 : zMv RX5 68 0 yX0_note cX0_note 4 none 3 := ⟨⟨TX0, 4, rfl⟩, ⟨zW_mem 219 (by decide +kernel) rfl, zW_mem 220 (by decide +kernel) rfl, zW_mem 221 (by decide +kernel) rfl, zW_mem 39 (by decide +kernel) rfl, zW_mem 222 (by rfl) rfl⟩, by decide +kernel, by decide +kernel, by decide +kernel⟩
set_option maxRecDepth 20000 in
theorem zmv_RX0_23 : zMv RX0 23 0 yX0_forgetOldest cX0_forgetOldest 1 none 0 := ⟨⟨TX0, 4, rfl⟩, ⟨zW_mem 223 (by decide +kernel) rfl, zW_mem 225 (by decide +kernel) rfl, zW_mem 0 (by decide +kernel) rfl, zW_mem 39 (by decide +kernel) rfl, zW_mem 226 (by rfl) rfl⟩, by decide +kernel, by decide +kernel, by decide +kernel⟩
theorem zmc_RX0_26 : zMc RX0 26 := ⟨zW_mem 227 (by decide +kernel) rfl, zW_mem 229 (by decide +kernel) rfl, zW_mem 228 (by decide +kernel) rfl, zW_mem 44 (by decide +kernel) rfl⟩
set_option maxRecDepth 20000 in
theorem zmv_RX5_72 : zMv RX5 72 1 yX1_add cX1_add 4 (some .int) 1 := ⟨⟨TX1, 11, rfl⟩, ⟨zW_mem 230 (by decide +kernel) rfl, zW_mem 231 (by decide +kernel) rfl, zW_mem 232 (by decide +kernel) rfl, zW_mem 37 (by decide +kernel) rfl, zW_mem 233 (by rfl) rfl⟩, by decide +kernel, by decide +kernel, by decide +kernel⟩
set_option maxRecDepth 20000 in
theorem zmv_RX1_49 : zMv RX1 49 1 yX1_longestBehind cX1_longestBehind 6 (some .int) 2 := ⟨⟨TX1, 11, rfl⟩, ⟨zW_mem 234 (by decide +kernel) rfl, zW_mem 236 (by decide +kernel) rfl, zW_mem 1 (by decide +kernel) rfl, zW_mem 37 (by decide +kernel) rfl, zW_mem 237 (by rfl) rfl⟩, by decide +kernel, by decide +kernel, by decide +kernel⟩
set_option maxRecDepth 20000 in
theorem zms_RX1_53 : zMs RX1 53 yX1_edge cX1_edge 2 (some .int) 2 := ⟨⟨zW_mem 238 (by decide +kernel) rfl, zW_mem 239 (by decide +kernel) rfl, zW_mem 37 (by decide +kernel) rfl, zW_mem 240 (by rfl) rfl⟩, by decide +kernel, by decide +kernel, by decide +kernel⟩
set_option maxRecDepth 20000 in
theorem zmv_RX1_56 : zMv RX1 56 1 yX1_create cX1_create 5 (some .int) 2 := ⟨⟨TX1, 11, rfl⟩, ⟨zW_mem 241 (by decide +kernel) rfl, zW_mem 243 (by decide +kernel) rfl, zW_mem 2 (by decide +kernel) rfl, zW_mem 37 (by decide +kernel) rfl, zW_mem 244 (by rfl) rfl⟩, by decide +kernel, by decide +kernel, by decide +kernel⟩
set_option maxRecDepth 20000 in
theorem zmv_RX1_62 : zMv RX1 62 1 yX1_less cX1_less 2 (some .int) 1 := ⟨⟨TX1, 11, rfl⟩, ⟨zW_mem 245 (by decide +kernel) rfl, zW_mem 246 (by decide +kernel) rfl, zW_mem 247 (by decide +kernel) rfl, zW_mem 37 (by decide +kernel) rfl, zW_mem 248 (by rfl) rfl⟩, by decide +kernel, by decide +kernel, by decide +kernel⟩
set_option maxRecDepth 20000 in
theorem zmv_RL_18 : zMv RL 18 5 yX5_pop cX5_pop 2 (some .int) 0 := ⟨⟨TX5, 9, rfl⟩, ⟨zW_mem 249 (by decide +kernel) rfl, zW_mem 250 (by decide +kernel) rfl, zW_mem 251 (by decide +kernel) rfl, zW_mem 36 (by decide +kernel) rfl, zW_mem 252 (by rfl) rfl⟩, by decide +kernel, by decide +kernel, by decide +kernel⟩
set_option maxRecDepth 20000 in
theorem zmv_RX5_76 : zMv RX5 76 1 yX1_lastLetter cX1_lastLetter 1 (some .int) 0 := ⟨⟨TX1, 11, rfl⟩, ⟨zW_mem 253 (by decide +kernel) rfl, zW_mem 254 (by decide +kernel) rfl, zW_mem 255 (by decide +kernel) rfl, zW_mem 37 (by decide +kernel) rfl, zW_mem 256 (by rfl) rfl⟩, by decide +kernel, by decide +kernel, by decide +kernel⟩
set_option maxRecDepth 20000 in
theorem zmv_RX5_80 : zMv RX5 80 1 yX1_removeLast cX1_removeLast 2 none 0 := ⟨⟨TX1, 11, rfl⟩, ⟨zW_mem 257 (by decide +kernel) rfl, zW_mem 258 (by decide +kernel) rfl, zW_mem 259 (by decide +kernel) rfl, zW_mem 37 (by decide +kernel) rfl, zW_mem 260 (by rfl) rfl⟩, by decide +kernel, by decide +kernel, by decide +kernel⟩
set_option maxRecDepth 20000 in
theorem zmv_RL_23 : zMv RL 23 5 yX5_change cX5_change 4 (some .int) 2 := ⟨⟨TX5, 9, rfl⟩, ⟨zW_mem 261 (by decide +kernel) rfl, zW_mem 262 (by decide +kernel) rfl, zW_mem 263 (by decide +kernel) rfl, zW_mem 36 (by decide +kernel) rfl, zW_mem 264 (by rfl) rfl⟩, by decide +kernel, by decide +kernel, by decide +kernel⟩
set_option maxRecDepth 20000 in
theorem zmv_RX5_83 : zMv RX5 83 5 yX5_isPlace cX5_isPlace 2 (some .boolean) 1 := ⟨⟨TX5, 9, rfl⟩, ⟨zW_mem 265 (by decide +kernel) rfl, zW_mem 267 (by decide +kernel) rfl, zW_mem 3 (by decide +kernel) rfl, zW_mem 36 (by decide +kernel) rfl, zW_mem 268 (by rfl) rfl⟩, by decide +kernel, by decide +kernel, by decide +kernel⟩
set_option maxRecDepth 20000 in
theorem zmv_RX5_89 : zMv RX5 89 1 yX1_replace cX1_replace 5 none 2 := ⟨⟨TX1, 11, rfl⟩, ⟨zW_mem 269 (by decide +kernel) rfl, zW_mem 270 (by decide +kernel) rfl, zW_mem 271 (by decide +kernel) rfl, zW_mem 37 (by decide +kernel) rfl, zW_mem 272 (by rfl) rfl⟩, by decide +kernel, by decide +kernel, by decide +kernel⟩
set_option maxRecDepth 20000 in
theorem zmv_RX1_66 : zMv RX1 66 1 yX1_shorten cX1_shorten 3 none 1 := ⟨⟨TX1, 11, rfl⟩, ⟨zW_mem 273 (by decide +kernel) rfl, zW_mem 275 (by decide +kernel) rfl, zW_mem 4 (by decide +kernel) rfl, zW_mem 37 (by decide +kernel) rfl, zW_mem 276 (by rfl) rfl⟩, by decide +kernel, by decide +kernel, by decide +kernel⟩
set_option maxRecDepth 20000 in
theorem zmv_RX1_73 : zMv RX1 73 1 yX1_removeLast cX1_removeLast 2 none 0 := ⟨⟨TX1, 11, rfl⟩, ⟨zW_mem 277 (by decide +kernel) rfl, zW_mem 258 (by decide +kernel) rfl, zW_mem 259 (by decide +kernel) rfl, zW_mem 37 (by decide +kernel) rfl, zW_mem 260 (by rfl) rfl⟩, by decide +kernel, by decide +kernel, by decide +kernel⟩
set_option maxRecDepth 20000 in
theorem zmv_RX1_70 : zMv RX1 70 1 yX1_add cX1_add 4 (some .int) 1 := ⟨⟨TX1, 11, rfl⟩, ⟨zW_mem 278 (by decide +kernel) rfl, zW_mem 231 (by decide +kernel) rfl, zW_mem 232 (by decide +kernel) rfl, zW_mem 37 (by decide +kernel) rfl, zW_mem 233 (by rfl) rfl⟩, by decide +kernel, by decide +kernel, by decide +kernel⟩
set_option maxRecDepth 20000 in
theorem zmv_RL_28 : zMv RL 28 5 yX5_undo cX5_undo 1 (some .int) 0 := ⟨⟨TX5, 9, rfl⟩, ⟨zW_mem 279 (by decide +kernel) rfl, zW_mem 280 (by decide +kernel) rfl, zW_mem 281 (by decide +kernel) rfl, zW_mem 36 (by decide +kernel) rfl, zW_mem 282 (by rfl) rfl⟩, by decide +kernel, by decide +kernel, by decide +kernel⟩
set_option maxRecDepth 20000 in
theorem zmv_RX5_94 : zMv RX5 94 0 yX0_takeBackLatest cX0_takeBackLatest 2 none 1 := ⟨⟨TX0, 4, rfl⟩, ⟨zW_mem 283 (by decide +kernel) rfl, zW_mem 284 (by decide +kernel) rfl, zW_mem 285 (by decide +kernel) rfl, zW_mem 39 (by decide +kernel) rfl, zW_mem 286 (by rfl) rfl⟩, by decide +kernel, by decide +kernel, by decide +kernel⟩
set_option maxRecDepth 20000 in
theorem zmv_RX0_32 : zMv RX0 32 1 yX1_removeLast cX1_removeLast 2 none 0 := ⟨⟨TX1, 11, rfl⟩, ⟨zW_mem 287 (by decide +kernel) rfl, zW_mem 258 (by decide +kernel) rfl, zW_mem 259 (by decide +kernel) rfl, zW_mem 37 (by decide +kernel) rfl, zW_mem 260 (by rfl) rfl⟩, by decide +kernel, by decide +kernel, by decide +kernel⟩
set_option maxRecDepth 20000 in
theorem zmv_RX0_37 : zMv RX0 37 1 yX1_add cX1_add 4 (some .int) 1 := ⟨⟨TX1, 11, rfl⟩, ⟨zW_mem 288 (by decide +kernel) rfl, zW_mem 231 (by decide +kernel) rfl, zW_mem 232 (by decide +kernel) rfl, zW_mem 37 (by decide +kernel) rfl, zW_mem 233 (by rfl) rfl⟩, by decide +kernel, by decide +kernel, by decide +kernel⟩
set_option maxRecDepth 20000 in
theorem zmv_RX0_41 : zMv RX0 41 1 yX1_replace cX1_replace 5 none 2 := ⟨⟨TX1, 11, rfl⟩, ⟨zW_mem 289 (by decide +kernel) rfl, zW_mem 270 (by decide +kernel) rfl, zW_mem 271 (by decide +kernel) rfl, zW_mem 37 (by decide +kernel) rfl, zW_mem 272 (by rfl) rfl⟩, by decide +kernel, by decide +kernel, by decide +kernel⟩
set_option maxRecDepth 20000 in
theorem zmv_RL_32 : zMv RL 32 5 yX5_letter cX5_letter 2 (some .int) 1 := ⟨⟨TX5, 9, rfl⟩, ⟨zW_mem 290 (by decide +kernel) rfl, zW_mem 291 (by decide +kernel) rfl, zW_mem 292 (by decide +kernel) rfl, zW_mem 36 (by decide +kernel) rfl, zW_mem 293 (by rfl) rfl⟩, by decide +kernel, by decide +kernel, by decide +kernel⟩
set_option maxRecDepth 20000 in
theorem zmv_RL_36 : zMv RL 36 5 yX5_node cX5_node 3 (some .int) 2 := ⟨⟨TX5, 9, rfl⟩, ⟨zW_mem 294 (by decide +kernel) rfl, zW_mem 295 (by decide +kernel) rfl, zW_mem 296 (by decide +kernel) rfl, zW_mem 36 (by decide +kernel) rfl, zW_mem 297 (by rfl) rfl⟩, by decide +kernel, by decide +kernel, by decide +kernel⟩
set_option maxRecDepth 20000 in
theorem zmv_RX5_98 : zMv RX5 98 5 yX5_isNode cX5_isNode 2 (some .boolean) 1 := ⟨⟨TX5, 9, rfl⟩, ⟨zW_mem 298 (by decide +kernel) rfl, zW_mem 300 (by decide +kernel) rfl, zW_mem 5 (by decide +kernel) rfl, zW_mem 36 (by decide +kernel) rfl, zW_mem 301 (by rfl) rfl⟩, by decide +kernel, by decide +kernel, by decide +kernel⟩
set_option maxRecDepth 20000 in
theorem zmv_RX5_104 : zMv RX5 104 1 yX1_firstPlace cX1_firstPlace 2 (some .int) 1 := ⟨⟨TX1, 11, rfl⟩, ⟨zW_mem 302 (by decide +kernel) rfl, zW_mem 303 (by decide +kernel) rfl, zW_mem 304 (by decide +kernel) rfl, zW_mem 37 (by decide +kernel) rfl, zW_mem 305 (by rfl) rfl⟩, by decide +kernel, by decide +kernel, by decide +kernel⟩
set_option maxRecDepth 20000 in
theorem zmv_RX5_107 : zMv RX5 107 1 yX1_lastPlace cX1_lastPlace 4 (some .int) 1 := ⟨⟨TX1, 11, rfl⟩, ⟨zW_mem 306 (by decide +kernel) rfl, zW_mem 307 (by decide +kernel) rfl, zW_mem 308 (by decide +kernel) rfl, zW_mem 37 (by decide +kernel) rfl, zW_mem 309 (by rfl) rfl⟩, by decide +kernel, by decide +kernel, by decide +kernel⟩
set_option maxRecDepth 20000 in
theorem zmv_RX1_76 : zMv RX1 76 1 yX1_firstPlace cX1_firstPlace 2 (some .int) 1 := ⟨⟨TX1, 11, rfl⟩, ⟨zW_mem 310 (by decide +kernel) rfl, zW_mem 303 (by decide +kernel) rfl, zW_mem 304 (by decide +kernel) rfl, zW_mem 37 (by decide +kernel) rfl, zW_mem 305 (by rfl) rfl⟩, by decide +kernel, by decide +kernel, by decide +kernel⟩
set_option maxRecDepth 20000 in
theorem zmv_RX1_79 : zMv RX1 79 1 yX1_standsAt cX1_standsAt 6 (some .boolean) 4 := ⟨⟨TX1, 11, rfl⟩, ⟨zW_mem 311 (by decide +kernel) rfl, zW_mem 312 (by decide +kernel) rfl, zW_mem 313 (by decide +kernel) rfl, zW_mem 37 (by decide +kernel) rfl, zW_mem 314 (by rfl) rfl⟩, by decide +kernel, by decide +kernel, by decide +kernel⟩
set_option maxRecDepth 20000 in
theorem zmv_RX5_110 : zMv RX5 110 1 yX1_places cX1_places 6 (some .int) 3 := ⟨⟨TX1, 11, rfl⟩, ⟨zW_mem 315 (by decide +kernel) rfl, zW_mem 316 (by decide +kernel) rfl, zW_mem 317 (by decide +kernel) rfl, zW_mem 37 (by decide +kernel) rfl, zW_mem 318 (by rfl) rfl⟩, by decide +kernel, by decide +kernel, by decide +kernel⟩
set_option maxRecDepth 20000 in
theorem zms_RX5_117 : zMs RX5 117 yX5_nodeOrNone cX5_nodeOrNone 1 (some .int) 1 := ⟨⟨zW_mem 319 (by decide +kernel) rfl, zW_mem 320 (by decide +kernel) rfl, zW_mem 36 (by decide +kernel) rfl, zW_mem 321 (by rfl) rfl⟩, by decide +kernel, by decide +kernel, by decide +kernel⟩
set_option maxRecDepth 20000 in
theorem zmv_RX5_120 : zMv RX5 120 1 yX1_less cX1_less 2 (some .int) 1 := ⟨⟨TX1, 11, rfl⟩, ⟨zW_mem 322 (by decide +kernel) rfl, zW_mem 246 (by decide +kernel) rfl, zW_mem 247 (by decide +kernel) rfl, zW_mem 37 (by decide +kernel) rfl, zW_mem 248 (by rfl) rfl⟩, by decide +kernel, by decide +kernel, by decide +kernel⟩
set_option maxRecDepth 20000 in
theorem zmv_RL_40 : zMv RL 40 5 yX5_keep cX5_keep 2 (some .int) 1 := ⟨⟨TX5, 9, rfl⟩, ⟨zW_mem 323 (by decide +kernel) rfl, zW_mem 324 (by decide +kernel) rfl, zW_mem 325 (by decide +kernel) rfl, zW_mem 36 (by decide +kernel) rfl, zW_mem 326 (by rfl) rfl⟩, by decide +kernel, by decide +kernel, by decide +kernel⟩
set_option maxRecDepth 20000 in
theorem zmv_RX5_133 : zMv RX5 133 3 yX3_hold cX3_hold 3 none 2 := ⟨⟨TX3, 2, rfl⟩, ⟨zW_mem 327 (by decide +kernel) rfl, zW_mem 328 (by decide +kernel) rfl, zW_mem 329 (by decide +kernel) rfl, zW_mem 41 (by decide +kernel) rfl, zW_mem 330 (by rfl) rfl⟩, by decide +kernel, by decide +kernel, by decide +kernel⟩
theorem zmc_RX3_19 : zMc RX3 19 := ⟨zW_mem 331 (by decide +kernel) rfl, zW_mem 229 (by decide +kernel) rfl, zW_mem 228 (by decide +kernel) rfl, zW_mem 44 (by decide +kernel) rfl⟩
set_option maxRecDepth 20000 in
theorem zmv_RL_44 : zMv RL 44 5 yX5_back cX5_back 3 (some .int) 1 := ⟨⟨TX5, 9, rfl⟩, ⟨zW_mem 332 (by decide +kernel) rfl, zW_mem 333 (by decide +kernel) rfl, zW_mem 334 (by decide +kernel) rfl, zW_mem 36 (by decide +kernel) rfl, zW_mem 335 (by rfl) rfl⟩, by decide +kernel, by decide +kernel, by decide +kernel⟩
set_option maxRecDepth 20000 in
theorem zmv_RX5_141 : zMv RX5 141 1 yX1_load cX1_load 5 none 3 := ⟨⟨TX1, 11, rfl⟩, ⟨zW_mem 336 (by decide +kernel) rfl, zW_mem 337 (by decide +kernel) rfl, zW_mem 338 (by decide +kernel) rfl, zW_mem 37 (by decide +kernel) rfl, zW_mem 339 (by rfl) rfl⟩, by decide +kernel, by decide +kernel, by decide +kernel⟩
set_option maxRecDepth 20000 in
theorem zmv_RX5_145 : zMv RX5 145 0 yX0_forget cX0_forget 1 none 0 := ⟨⟨TX0, 4, rfl⟩, ⟨zW_mem 340 (by decide +kernel) rfl, zW_mem 341 (by decide +kernel) rfl, zW_mem 342 (by decide +kernel) rfl, zW_mem 39 (by decide +kernel) rfl, zW_mem 343 (by rfl) rfl⟩, by decide +kernel, by decide +kernel, by decide +kernel⟩
set_option maxRecDepth 20000 in
theorem zmv_RL_48 : zMv RL 48 5 yX5_common cX5_common 8 (some .int) 2 := ⟨⟨TX5, 9, rfl⟩, ⟨zW_mem 344 (by decide +kernel) rfl, zW_mem 345 (by decide +kernel) rfl, zW_mem 346 (by decide +kernel) rfl, zW_mem 36 (by decide +kernel) rfl, zW_mem 347 (by rfl) rfl⟩, by decide +kernel, by decide +kernel, by decide +kernel⟩
set_option maxRecDepth 20000 in
theorem zmv_RX5_151 : zMv RX5 151 1 yX1_nodeOf cX1_nodeOf 5 (some .int) 3 := ⟨⟨TX1, 11, rfl⟩, ⟨zW_mem 348 (by decide +kernel) rfl, zW_mem 349 (by decide +kernel) rfl, zW_mem 350 (by decide +kernel) rfl, zW_mem 37 (by decide +kernel) rfl, zW_mem 351 (by rfl) rfl⟩, by decide +kernel, by decide +kernel, by decide +kernel⟩
set_option maxRecDepth 20000 in
theorem zms_RX5_154 : zMs RX5 154 yJ9_max_7cf53 cJ9_max_7cf53 2 (some .int) 2 := ⟨⟨zW_mem 352 (by decide +kernel) rfl, zW_mem 353 (by decide +kernel) rfl, zW_mem 45 (by decide +kernel) rfl, zW_mem 354 (by rfl) rfl⟩, by decide +kernel, by decide +kernel, by decide +kernel⟩
set_option maxRecDepth 20000 in
theorem zmv_RL_52 : zMv RL 52 5 yX5_ends cX5_ends 6 (some .int) 2 := ⟨⟨TX5, 9, rfl⟩, ⟨zW_mem 355 (by decide +kernel) rfl, zW_mem 356 (by decide +kernel) rfl, zW_mem 357 (by decide +kernel) rfl, zW_mem 36 (by decide +kernel) rfl, zW_mem 358 (by rfl) rfl⟩, by decide +kernel, by decide +kernel, by decide +kernel⟩
set_option maxRecDepth 20000 in
theorem zmv_RL_56 : zMv RL 56 5 yX5_groups cX5_groups 5 (some .int) 1 := ⟨⟨TX5, 9, rfl⟩, ⟨zW_mem 359 (by decide +kernel) rfl, zW_mem 360 (by decide +kernel) rfl, zW_mem 361 (by decide +kernel) rfl, zW_mem 36 (by decide +kernel) rfl, zW_mem 362 (by rfl) rfl⟩, by decide +kernel, by decide +kernel, by decide +kernel⟩
set_option maxRecDepth 20000 in
theorem zmv_RL_60 : zMv RL 60 5 yX5_cuts cX5_cuts 4 (some .int) 2 := ⟨⟨TX5, 9, rfl⟩, ⟨zW_mem 363 (by decide +kernel) rfl, zW_mem 364 (by decide +kernel) rfl, zW_mem 365 (by decide +kernel) rfl, zW_mem 36 (by decide +kernel) rfl, zW_mem 366 (by rfl) rfl⟩, by decide +kernel, by decide +kernel, by decide +kernel⟩
set_option maxRecDepth 20000 in
theorem zmv_RX5_166 : zMv RX5 166 2 yX2_cut cX2_cut 5 none 3 := ⟨⟨TX2, 2, rfl⟩, ⟨zW_mem 367 (by decide +kernel) rfl, zW_mem 368 (by decide +kernel) rfl, zW_mem 369 (by decide +kernel) rfl, zW_mem 40 (by decide +kernel) rfl, zW_mem 370 (by rfl) rfl⟩, by decide +kernel, by decide +kernel, by decide +kernel⟩
set_option maxRecDepth 20000 in
theorem zms_RX2_18 : zMs RX2 18 yJ7_fill_53178 cJ7_fill_53178 4 none 2 := ⟨⟨zW_mem 371 (by decide +kernel) rfl, zW_mem 61 (by decide +kernel) rfl, zW_mem 38 (by decide +kernel) rfl, zW_mem 62 (by rfl) rfl⟩, by decide +kernel, by decide +kernel, by decide +kernel⟩
set_option maxRecDepth 20000 in
theorem zmv_RX2_24 : zMv RX2 24 2 yX2_reachFrom cX2_reachFrom 10 none 3 := ⟨⟨TX2, 2, rfl⟩, ⟨zW_mem 372 (by decide +kernel) rfl, zW_mem 374 (by decide +kernel) rfl, zW_mem 6 (by decide +kernel) rfl, zW_mem 40 (by decide +kernel) rfl, zW_mem 375 (by rfl) rfl⟩, by decide +kernel, by decide +kernel, by decide +kernel⟩
set_option maxRecDepth 20000 in
theorem zmv_RX5_170 : zMv RX5 170 2 yX2_pieces cX2_pieces 1 (some .int) 0 := ⟨⟨TX2, 2, rfl⟩, ⟨zW_mem 376 (by decide +kernel) rfl, zW_mem 377 (by decide +kernel) rfl, zW_mem 378 (by decide +kernel) rfl, zW_mem 40 (by decide +kernel) rfl, zW_mem 379 (by rfl) rfl⟩, by decide +kernel, by decide +kernel, by decide +kernel⟩
set_option maxRecDepth 20000 in
theorem zmv_RX5_173 : zMv RX5 173 2 yX2_pieceLength cX2_pieceLength 4 (some .int) 1 := ⟨⟨TX2, 2, rfl⟩, ⟨zW_mem 380 (by decide +kernel) rfl, zW_mem 381 (by decide +kernel) rfl, zW_mem 382 (by decide +kernel) rfl, zW_mem 40 (by decide +kernel) rfl, zW_mem 383 (by rfl) rfl⟩, by decide +kernel, by decide +kernel, by decide +kernel⟩
set_option maxRecDepth 20000 in
theorem zmv_RL_64 : zMv RL 64 5 yX5_evens cX5_evens 3 (some .int) 1 := ⟨⟨TX5, 9, rfl⟩, ⟨zW_mem 384 (by decide +kernel) rfl, zW_mem 385 (by decide +kernel) rfl, zW_mem 386 (by decide +kernel) rfl, zW_mem 36 (by decide +kernel) rfl, zW_mem 387 (by rfl) rfl⟩, by decide +kernel, by decide +kernel, by decide +kernel⟩
set_option maxRecDepth 20000 in
theorem zmv_RL_68 : zMv RL 68 5 yX5_in cX5_in 5 (some .int) 3 := ⟨⟨TX5, 9, rfl⟩, ⟨zW_mem 388 (by decide +kernel) rfl, zW_mem 389 (by decide +kernel) rfl, zW_mem 390 (by decide +kernel) rfl, zW_mem 36 (by decide +kernel) rfl, zW_mem 391 (by rfl) rfl⟩, by decide +kernel, by decide +kernel, by decide +kernel⟩
set_option maxRecDepth 20000 in
theorem zmv_RX5_176 : zMv RX5 176 1 yX1_longestNode cX1_longestNode 3 (some .int) 0 := ⟨⟨TX1, 11, rfl⟩, ⟨zW_mem 392 (by decide +kernel) rfl, zW_mem 393 (by decide +kernel) rfl, zW_mem 394 (by decide +kernel) rfl, zW_mem 37 (by decide +kernel) rfl, zW_mem 395 (by rfl) rfl⟩, by decide +kernel, by decide +kernel, by decide +kernel⟩
set_option maxRecDepth 20000 in
theorem zmv_RL_73 : zMv RL 73 5 yX5_mend cX5_mend 2 (some .int) 1 := ⟨⟨TX5, 9, rfl⟩, ⟨zW_mem 396 (by decide +kernel) rfl, zW_mem 397 (by decide +kernel) rfl, zW_mem 398 (by decide +kernel) rfl, zW_mem 36 (by decide +kernel) rfl, zW_mem 399 (by rfl) rfl⟩, by decide +kernel, by decide +kernel, by decide +kernel⟩
set_option maxRecDepth 20000 in
theorem zmv_RX5_179 : zMv RX5 179 1 yX1_unlikePairs cX1_unlikePairs 3 (some .int) 0 := ⟨⟨TX1, 11, rfl⟩, ⟨zW_mem 400 (by decide +kernel) rfl, zW_mem 401 (by decide +kernel) rfl, zW_mem 402 (by decide +kernel) rfl, zW_mem 37 (by decide +kernel) rfl, zW_mem 403 (by rfl) rfl⟩, by decide +kernel, by decide +kernel, by decide +kernel⟩
set_option maxRecDepth 20000 in
theorem zmv_RX5_182 : zMv RX5 182 5 yX5_fewestFills cX5_fewestFills 6 (some .int) 0 := ⟨⟨TX5, 9, rfl⟩, ⟨zW_mem 404 (by decide +kernel) rfl, zW_mem 406 (by decide +kernel) rfl, zW_mem 7 (by decide +kernel) rfl, zW_mem 36 (by decide +kernel) rfl, zW_mem 407 (by rfl) rfl⟩, by decide +kernel, by decide +kernel, by decide +kernel⟩
set_option maxRecDepth 20000 in
theorem zms_RX5_263 : zMs RX5 263 yJ9_min_7cf53 cJ9_min_7cf53 2 (some .int) 2 := ⟨⟨zW_mem 408 (by decide +kernel) rfl, zW_mem 409 (by decide +kernel) rfl, zW_mem 45 (by decide +kernel) rfl, zW_mem 410 (by rfl) rfl⟩, by decide +kernel, by decide +kernel, by decide +kernel⟩
set_option maxRecDepth 20000 in
theorem zmv_RL_77 : zMv RL 77 5 yX5_turned cX5_turned 5 (some .int) 1 := ⟨⟨TX5, 9, rfl⟩, ⟨zW_mem 411 (by decide +kernel) rfl, zW_mem 412 (by decide +kernel) rfl, zW_mem 413 (by decide +kernel) rfl, zW_mem 36 (by decide +kernel) rfl, zW_mem 414 (by rfl) rfl⟩, by decide +kernel, by decide +kernel, by decide +kernel⟩
set_option maxRecDepth 20000 in
theorem zmv_RX5_185 : zMv RX5 185 1 yX1_isMirrorTurned cX1_isMirrorTurned 3 (some .boolean) 1 := ⟨⟨TX1, 11, rfl⟩, ⟨zW_mem 415 (by decide +kernel) rfl, zW_mem 416 (by decide +kernel) rfl, zW_mem 417 (by decide +kernel) rfl, zW_mem 37 (by decide +kernel) rfl, zW_mem 418 (by rfl) rfl⟩, by decide +kernel, by decide +kernel, by decide +kernel⟩
set_option maxRecDepth 20000 in
theorem zmv_RX1_83 : zMv RX1 83 1 yX1_around cX1_around 2 (some .int) 1 := ⟨⟨TX1, 11, rfl⟩, ⟨zW_mem 419 (by decide +kernel) rfl, zW_mem 421 (by decide +kernel) rfl, zW_mem 8 (by decide +kernel) rfl, zW_mem 37 (by decide +kernel) rfl, zW_mem 422 (by rfl) rfl⟩, by decide +kernel, by decide +kernel, by decide +kernel⟩
set_option maxRecDepth 20000 in
theorem zmv_RL_81 : zMv RL 81 5 yX5_next cX5_next 4 (some .int) 2 := ⟨⟨TX5, 9, rfl⟩, ⟨zW_mem 423 (by decide +kernel) rfl, zW_mem 424 (by decide +kernel) rfl, zW_mem 425 (by decide +kernel) rfl, zW_mem 36 (by decide +kernel) rfl, zW_mem 426 (by rfl) rfl⟩, by decide +kernel, by decide +kernel, by decide +kernel⟩
set_option maxRecDepth 20000 in
theorem zmv_RL_85 : zMv RL 85 5 yX5_grow cX5_grow 4 (some .int) 2 := ⟨⟨TX5, 9, rfl⟩, ⟨zW_mem 427 (by decide +kernel) rfl, zW_mem 428 (by decide +kernel) rfl, zW_mem 429 (by decide +kernel) rfl, zW_mem 36 (by decide +kernel) rfl, zW_mem 430 (by rfl) rfl⟩, by decide +kernel, by decide +kernel, by decide +kernel⟩
set_option maxRecDepth 20000 in
theorem zmv_RX5_188 : zMv RX5 188 5 yX5_growMost cX5_growMost 5 (some .int) 1 := ⟨⟨TX5, 9, rfl⟩, ⟨zW_mem 431 (by decide +kernel) rfl, zW_mem 433 (by decide +kernel) rfl, zW_mem 9 (by decide +kernel) rfl, zW_mem 36 (by decide +kernel) rfl, zW_mem 434 (by rfl) rfl⟩, by decide +kernel, by decide +kernel, by decide +kernel⟩
set_option maxRecDepth 20000 in
theorem zms_RX5_191 : zMs RX5 191 yX5_rowsOf cX5_rowsOf 3 (some .int) 1 := ⟨⟨zW_mem 435 (by decide +kernel) rfl, zW_mem 436 (by decide +kernel) rfl, zW_mem 36 (by decide +kernel) rfl, zW_mem 437 (by rfl) rfl⟩, by decide +kernel, by decide +kernel, by decide +kernel⟩
set_option maxRecDepth 20000 in
theorem zmv_RX5_266 : zMv RX5 266 5 yX5_startRows cX5_startRows 2 none 1 := ⟨⟨TX5, 9, rfl⟩, ⟨zW_mem 438 (by decide +kernel) rfl, zW_mem 440 (by decide +kernel) rfl, zW_mem 10 (by decide +kernel) rfl, zW_mem 36 (by decide +kernel) rfl, zW_mem 441 (by rfl) rfl⟩, by decide +kernel, by decide +kernel, by decide +kernel⟩
set_option maxRecDepth 20000 in
theorem zmv_RX5_272 : zMv RX5 272 1 yX1_lengthen cX1_lengthen 3 none 1 := ⟨⟨TX1, 11, rfl⟩, ⟨zW_mem 442 (by decide +kernel) rfl, zW_mem 443 (by decide +kernel) rfl, zW_mem 444 (by decide +kernel) rfl, zW_mem 37 (by decide +kernel) rfl, zW_mem 445 (by rfl) rfl⟩, by decide +kernel, by decide +kernel, by decide +kernel⟩
theorem zmc_RX5_245 : zMc RX5 245 := ⟨zW_mem 446 (by decide +kernel) rfl, zW_mem 229 (by decide +kernel) rfl, zW_mem 228 (by decide +kernel) rfl, zW_mem 44 (by decide +kernel) rfl⟩
set_option maxRecDepth 20000 in
theorem zmv_RX5_269 : zMv RX5 269 5 yX5_stepRow cX5_stepRow 4 none 1 := ⟨⟨TX5, 9, rfl⟩, ⟨zW_mem 447 (by decide +kernel) rfl, zW_mem 449 (by decide +kernel) rfl, zW_mem 11 (by decide +kernel) rfl, zW_mem 36 (by decide +kernel) rfl, zW_mem 450 (by rfl) rfl⟩, by decide +kernel, by decide +kernel, by decide +kernel⟩
set_option maxRecDepth 20000 in
theorem zmv_RL_89 : zMv RL 89 5 yX5_odds cX5_odds 7 (some .int) 3 := ⟨⟨TX5, 9, rfl⟩, ⟨zW_mem 451 (by decide +kernel) rfl, zW_mem 452 (by decide +kernel) rfl, zW_mem 453 (by decide +kernel) rfl, zW_mem 36 (by decide +kernel) rfl, zW_mem 454 (by rfl) rfl⟩, by decide +kernel, by decide +kernel, by decide +kernel⟩
set_option maxRecDepth 20000 in
theorem zmv_RX5_194 : zMv RX5 194 5 yX5_rowsThatBring cX5_rowsThatBring 6 (some .int) 2 := ⟨⟨TX5, 9, rfl⟩, ⟨zW_mem 455 (by decide +kernel) rfl, zW_mem 457 (by decide +kernel) rfl, zW_mem 12 (by decide +kernel) rfl, zW_mem 36 (by decide +kernel) rfl, zW_mem 458 (by rfl) rfl⟩, by decide +kernel, by decide +kernel, by decide +kernel⟩
set_option maxRecDepth 20000 in
theorem zms_RX5_197 : zMs RX5 197 yX5_greatestDivisor cX5_greatestDivisor 6 (some .int) 2 := ⟨⟨zW_mem 459 (by decide +kernel) rfl, zW_mem 460 (by decide +kernel) rfl, zW_mem 36 (by decide +kernel) rfl, zW_mem 461 (by rfl) rfl⟩, by decide +kernel, by decide +kernel, by decide +kernel⟩
set_option maxRecDepth 20000 in
theorem zmv_RL_93 : zMv RL 93 5 yX5_walks cX5_walks 8 (some .int) 3 := ⟨⟨TX5, 9, rfl⟩, ⟨zW_mem 462 (by decide +kernel) rfl, zW_mem 463 (by decide +kernel) rfl, zW_mem 464 (by decide +kernel) rfl, zW_mem 36 (by decide +kernel) rfl, zW_mem 465 (by rfl) rfl⟩, by decide +kernel, by decide +kernel, by decide +kernel⟩
theorem zk_RX5_200 : Cond.constant RX5 200 (999999) ∈ zW := zW_mem 466 (by decide +kernel) rfl
theorem zk_RX5_201 : Cond.constantLong RX5 201 (16807) ∈ zW := zW_mem 467 (by decide +kernel) rfl
theorem zk_RX5_203 : Cond.constantLong RX5 203 (2147483647) ∈ zW := zW_mem 468 (by decide +kernel) rfl
theorem zk_RX5_205 : Cond.constantLong RX5 205 (64) ∈ zW := zW_mem 469 (by decide +kernel) rfl
theorem zk_RX5_207 : Cond.constantLong RX5 207 (4) ∈ zW := zW_mem 470 (by decide +kernel) rfl
theorem zk_RX5_209 : Cond.constantLong RX5 209 (6) ∈ zW := zW_mem 471 (by decide +kernel) rfl
set_option maxRecDepth 20000 in
theorem zmv_RL_97 : zMv RL 97 5 yX5_feed cX5_feed 2 (some .int) 1 := ⟨⟨TX5, 9, rfl⟩, ⟨zW_mem 472 (by decide +kernel) rfl, zW_mem 473 (by decide +kernel) rfl, zW_mem 474 (by decide +kernel) rfl, zW_mem 36 (by decide +kernel) rfl, zW_mem 475 (by rfl) rfl⟩, by decide +kernel, by decide +kernel, by decide +kernel⟩
set_option maxRecDepth 20000 in
theorem zms_RX5_211 : zMs RX5 211 yX5_isByte cX5_isByte 2 (some .boolean) 1 := ⟨⟨zW_mem 476 (by decide +kernel) rfl, zW_mem 477 (by decide +kernel) rfl, zW_mem 36 (by decide +kernel) rfl, zW_mem 478 (by rfl) rfl⟩, by decide +kernel, by decide +kernel, by decide +kernel⟩
theorem zk_RX5_261 : Cond.constantLong RX5 261 (255) ∈ zW := zW_mem 479 (by decide +kernel) rfl
set_option maxRecDepth 20000 in
theorem zmv_RX5_215 : zMv RX5 215 3 yX3_append cX3_append 2 none 1 := ⟨⟨TX3, 2, rfl⟩, ⟨zW_mem 480 (by decide +kernel) rfl, zW_mem 481 (by decide +kernel) rfl, zW_mem 482 (by decide +kernel) rfl, zW_mem 41 (by decide +kernel) rfl, zW_mem 483 (by rfl) rfl⟩, by decide +kernel, by decide +kernel, by decide +kernel⟩
set_option maxRecDepth 20000 in
theorem zmv_RL_101 : zMv RL 101 5 yX5_clear cX5_clear 2 (some .int) 0 := ⟨⟨TX5, 9, rfl⟩, ⟨zW_mem 484 (by decide +kernel) rfl, zW_mem 485 (by decide +kernel) rfl, zW_mem 486 (by decide +kernel) rfl, zW_mem 36 (by decide +kernel) rfl, zW_mem 487 (by rfl) rfl⟩, by decide +kernel, by decide +kernel, by decide +kernel⟩
set_option maxRecDepth 20000 in
theorem zmv_RL_105 : zMv RL 105 5 yX5_find cX5_find 2 (some .int) 0 := ⟨⟨TX5, 9, rfl⟩, ⟨zW_mem 488 (by decide +kernel) rfl, zW_mem 489 (by decide +kernel) rfl, zW_mem 490 (by decide +kernel) rfl, zW_mem 36 (by decide +kernel) rfl, zW_mem 491 (by rfl) rfl⟩, by decide +kernel, by decide +kernel, by decide +kernel⟩
set_option maxRecDepth 20000 in
theorem zmv_RL_109 : zMv RL 109 5 yX5_times cX5_times 1 (some .int) 0 := ⟨⟨TX5, 9, rfl⟩, ⟨zW_mem 492 (by decide +kernel) rfl, zW_mem 493 (by decide +kernel) rfl, zW_mem 494 (by decide +kernel) rfl, zW_mem 36 (by decide +kernel) rfl, zW_mem 495 (by rfl) rfl⟩, by decide +kernel, by decide +kernel, by decide +kernel⟩
set_option maxRecDepth 20000 in
theorem zmv_RL_113 : zMv RL 113 5 yX5_sheet cX5_sheet 4 (some .int) 3 := ⟨⟨TX5, 9, rfl⟩, ⟨zW_mem 496 (by decide +kernel) rfl, zW_mem 497 (by decide +kernel) rfl, zW_mem 498 (by decide +kernel) rfl, zW_mem 36 (by decide +kernel) rfl, zW_mem 499 (by rfl) rfl⟩, by decide +kernel, by decide +kernel, by decide +kernel⟩
set_option maxRecDepth 20000 in
theorem zms_RX5_218 : zMs RX5 218 yX5_isSheet cX5_isSheet 1 (some .boolean) 1 := ⟨⟨zW_mem 500 (by decide +kernel) rfl, zW_mem 501 (by decide +kernel) rfl, zW_mem 36 (by decide +kernel) rfl, zW_mem 502 (by rfl) rfl⟩, by decide +kernel, by decide +kernel, by decide +kernel⟩
set_option maxRecDepth 20000 in
theorem zms_RX5_221 : zMs RX5 221 yX5_isLane cX5_isLane 1 (some .boolean) 1 := ⟨⟨zW_mem 503 (by decide +kernel) rfl, zW_mem 504 (by decide +kernel) rfl, zW_mem 36 (by decide +kernel) rfl, zW_mem 505 (by rfl) rfl⟩, by decide +kernel, by decide +kernel, by decide +kernel⟩
set_option maxRecDepth 20000 in
theorem zmv_RX5_224 : zMv RX5 224 4 yX4_begin cX4_begin 3 none 2 := ⟨⟨TX4, 3, rfl⟩, ⟨zW_mem 506 (by decide +kernel) rfl, zW_mem 507 (by decide +kernel) rfl, zW_mem 508 (by decide +kernel) rfl, zW_mem 42 (by decide +kernel) rfl, zW_mem 509 (by rfl) rfl⟩, by decide +kernel, by decide +kernel, by decide +kernel⟩
set_option maxRecDepth 20000 in
theorem zms_RX4_19 : zMs RX4 19 yJ7_fill_d0a16 cJ7_fill_d0a16 5 none 2 := ⟨⟨zW_mem 510 (by decide +kernel) rfl, zW_mem 511 (by decide +kernel) rfl, zW_mem 38 (by decide +kernel) rfl, zW_mem 512 (by rfl) rfl⟩, by decide +kernel, by decide +kernel, by decide +kernel⟩
set_option maxRecDepth 20000 in
theorem zmv_RL_117 : zMv RL 117 5 yX5_drop cX5_drop 3 (some .int) 1 := ⟨⟨TX5, 9, rfl⟩, ⟨zW_mem 513 (by decide +kernel) rfl, zW_mem 514 (by decide +kernel) rfl, zW_mem 515 (by decide +kernel) rfl, zW_mem 36 (by decide +kernel) rfl, zW_mem 516 (by rfl) rfl⟩, by decide +kernel, by decide +kernel, by decide +kernel⟩
set_option maxRecDepth 20000 in
theorem zmv_RL_123 : zMv RL 123 5 yX5_item cX5_item 7 (some .long) 4 := ⟨⟨TX5, 9, rfl⟩, ⟨zW_mem 517 (by decide +kernel) rfl, zW_mem 518 (by decide +kernel) rfl, zW_mem 519 (by decide +kernel) rfl, zW_mem 36 (by decide +kernel) rfl, zW_mem 520 (by rfl) rfl⟩, by decide +kernel, by decide +kernel, by decide +kernel⟩
theorem zk_RX5_228 : Cond.constantLong RX5 228 (-1) ∈ zW := zW_mem 521 (by decide +kernel) rfl
set_option maxRecDepth 20000 in
theorem zmv_RX5_230 : zMv RX5 230 4 yX4_refusal cX4_refusal 4 (some .int) 3 := ⟨⟨TX4, 3, rfl⟩, ⟨zW_mem 522 (by decide +kernel) rfl, zW_mem 523 (by decide +kernel) rfl, zW_mem 524 (by decide +kernel) rfl, zW_mem 42 (by decide +kernel) rfl, zW_mem 525 (by rfl) rfl⟩, by decide +kernel, by decide +kernel, by decide +kernel⟩
set_option maxRecDepth 20000 in
theorem zmv_RX5_234 : zMv RX5 234 4 yX4_store cX4_store 4 (some .long) 2 := ⟨⟨TX4, 3, rfl⟩, ⟨zW_mem 526 (by decide +kernel) rfl, zW_mem 527 (by decide +kernel) rfl, zW_mem 528 (by decide +kernel) rfl, zW_mem 42 (by decide +kernel) rfl, zW_mem 529 (by rfl) rfl⟩, by decide +kernel, by decide +kernel, by decide +kernel⟩
set_option maxRecDepth 20000 in
theorem zmv_RX4_28 : zMv RX4 28 4 yX4_narrowed cX4_narrowed 3 (some .long) 1 := ⟨⟨TX4, 3, rfl⟩, ⟨zW_mem 530 (by decide +kernel) rfl, zW_mem 532 (by decide +kernel) rfl, zW_mem 13 (by decide +kernel) rfl, zW_mem 42 (by decide +kernel) rfl, zW_mem 533 (by rfl) rfl⟩, by decide +kernel, by decide +kernel, by decide +kernel⟩
set_option maxRecDepth 20000 in
theorem zmv_RL_128 : zMv RL 128 5 yX5_copy cX5_copy 9 (some .int) 5 := ⟨⟨TX5, 9, rfl⟩, ⟨zW_mem 534 (by decide +kernel) rfl, zW_mem 535 (by decide +kernel) rfl, zW_mem 536 (by decide +kernel) rfl, zW_mem 36 (by decide +kernel) rfl, zW_mem 537 (by rfl) rfl⟩, by decide +kernel, by decide +kernel, by decide +kernel⟩
set_option maxRecDepth 20000 in
theorem zmv_RL_133 : zMv RL 133 5 yX5_spell cX5_spell 9 (some .int) 4 := ⟨⟨TX5, 9, rfl⟩, ⟨zW_mem 538 (by decide +kernel) rfl, zW_mem 539 (by decide +kernel) rfl, zW_mem 540 (by decide +kernel) rfl, zW_mem 36 (by decide +kernel) rfl, zW_mem 541 (by rfl) rfl⟩, by decide +kernel, by decide +kernel, by decide +kernel⟩
set_option maxRecDepth 20000 in
theorem zmv_RL_138 : zMv RL 138 5 yX5_read cX5_read 8 (some .int) 4 := ⟨⟨TX5, 9, rfl⟩, ⟨zW_mem 542 (by decide +kernel) rfl, zW_mem 543 (by decide +kernel) rfl, zW_mem 544 (by decide +kernel) rfl, zW_mem 36 (by decide +kernel) rfl, zW_mem 545 (by rfl) rfl⟩, by decide +kernel, by decide +kernel, by decide +kernel⟩
set_option maxRecDepth 20000 in
theorem zmv_RX5_251 : zMv RX5 251 4 yX4_holdsBytes cX4_holdsBytes 4 (some .boolean) 2 := ⟨⟨TX4, 3, rfl⟩, ⟨zW_mem 546 (by decide +kernel) rfl, zW_mem 547 (by decide +kernel) rfl, zW_mem 548 (by decide +kernel) rfl, zW_mem 42 (by decide +kernel) rfl, zW_mem 549 (by rfl) rfl⟩, by decide +kernel, by decide +kernel, by decide +kernel⟩
set_option maxRecDepth 20000 in
theorem zmv_RL_142 : zMv RL 142 5 yX5_count cX5_count 3 (some .int) 1 := ⟨⟨TX5, 9, rfl⟩, ⟨zW_mem 551 (by decide +kernel) rfl, zW_mem 552 (by decide +kernel) rfl, zW_mem 553 (by decide +kernel) rfl, zW_mem 36 (by decide +kernel) rfl, zW_mem 554 (by rfl) rfl⟩, by decide +kernel, by decide +kernel, by decide +kernel⟩
set_option maxRecDepth 20000 in
theorem zmv_RX5_255 : zMv RX5 255 1 yX1_allPlaces cX1_allPlaces 3 (some .int) 0 := ⟨⟨TX1, 11, rfl⟩, ⟨zW_mem 555 (by decide +kernel) rfl, zW_mem 556 (by decide +kernel) rfl, zW_mem 557 (by decide +kernel) rfl, zW_mem 37 (by decide +kernel) rfl, zW_mem 558 (by rfl) rfl⟩, by decide +kernel, by decide +kernel, by decide +kernel⟩
set_option maxRecDepth 20000 in
theorem zmv_RX5_258 : zMv RX5 258 1 yX1_evenNodes cX1_evenNodes 3 (some .int) 0 := ⟨⟨TX1, 11, rfl⟩, ⟨zW_mem 559 (by decide +kernel) rfl, zW_mem 560 (by decide +kernel) rfl, zW_mem 561 (by decide +kernel) rfl, zW_mem 37 (by decide +kernel) rfl, zW_mem 562 (by rfl) rfl⟩, by decide +kernel, by decide +kernel, by decide +kernel⟩
set_option maxRecDepth 20000 in
theorem zmv_RL_17 : zMv RL 17 6 yX6_put cX6_put 2 (some .int) 1 := ⟨⟨TX6, 18, rfl⟩, ⟨zW_mem 624 (by decide +kernel) rfl, zW_mem 625 (by decide +kernel) rfl, zW_mem 626 (by decide +kernel) rfl, zW_mem 43 (by decide +kernel) rfl, zW_mem 627 (by rfl) rfl⟩, by decide +kernel, by decide +kernel, by decide +kernel⟩
set_option maxRecDepth 20000 in
theorem zms_RX6_101 : zMs RX6 101 yX6_isLetter cX6_isLetter 1 (some .boolean) 1 := ⟨⟨zW_mem 628 (by decide +kernel) rfl, zW_mem 629 (by decide +kernel) rfl, zW_mem 43 (by decide +kernel) rfl, zW_mem 630 (by rfl) rfl⟩, by decide +kernel, by decide +kernel, by decide +kernel⟩
theorem zk_RX6_86 : Cond.constantLong RX6 86 (97) ∈ zW := zW_mem 631 (by decide +kernel) rfl
theorem zk_RX6_88 : Cond.constantLong RX6 88 (102) ∈ zW := zW_mem 632 (by decide +kernel) rfl
set_option maxRecDepth 20000 in
theorem zms_RX6_90 : zMs RX6 90 yX6_within cX6_within 6 (some .boolean) 3 := ⟨⟨zW_mem 633 (by decide +kernel) rfl, zW_mem 634 (by decide +kernel) rfl, zW_mem 43 (by decide +kernel) rfl, zW_mem 635 (by rfl) rfl⟩, by decide +kernel, by decide +kernel, by decide +kernel⟩
set_option maxRecDepth 20000 in
theorem zmv_RX6_104 : zMv RX6 104 6 yX6_note cX6_note 2 none 1 := ⟨⟨TX6, 18, rfl⟩, ⟨zW_mem 636 (by decide +kernel) rfl, zW_mem 638 (by decide +kernel) rfl, zW_mem 14 (by decide +kernel) rfl, zW_mem 43 (by decide +kernel) rfl, zW_mem 639 (by rfl) rfl⟩, by decide +kernel, by decide +kernel, by decide +kernel⟩
set_option maxRecDepth 20000 in
theorem zms_RX6_97 : zMs RX6 97 yX6_bring cX6_bring 6 none 5 := ⟨⟨zW_mem 640 (by decide +kernel) rfl, zW_mem 641 (by decide +kernel) rfl, zW_mem 43 (by decide +kernel) rfl, zW_mem 642 (by rfl) rfl⟩, by decide +kernel, by decide +kernel, by decide +kernel⟩
set_option maxRecDepth 20000 in
theorem zmv_RX6_108 : zMv RX6 108 6 yX6_push cX6_push 2 none 1 := ⟨⟨TX6, 18, rfl⟩, ⟨zW_mem 643 (by decide +kernel) rfl, zW_mem 645 (by decide +kernel) rfl, zW_mem 15 (by decide +kernel) rfl, zW_mem 43 (by decide +kernel) rfl, zW_mem 646 (by rfl) rfl⟩, by decide +kernel, by decide +kernel, by decide +kernel⟩
set_option maxRecDepth 20000 in
theorem zmv_RX6_57 : zMv RX6 57 6 yX6_endsBelow cX6_endsBelow 4 (some .int) 2 := ⟨⟨TX6, 18, rfl⟩, ⟨zW_mem 647 (by decide +kernel) rfl, zW_mem 649 (by decide +kernel) rfl, zW_mem 16 (by decide +kernel) rfl, zW_mem 43 (by decide +kernel) rfl, zW_mem 650 (by rfl) rfl⟩, by decide +kernel, by decide +kernel, by decide +kernel⟩
set_option maxRecDepth 20000 in
theorem zmv_RX6_53 : zMv RX6 53 6 yX6_isMirror cX6_isMirror 5 (some .boolean) 2 := ⟨⟨TX6, 18, rfl⟩, ⟨zW_mem 651 (by decide +kernel) rfl, zW_mem 653 (by decide +kernel) rfl, zW_mem 17 (by decide +kernel) rfl, zW_mem 43 (by decide +kernel) rfl, zW_mem 654 (by rfl) rfl⟩, by decide +kernel, by decide +kernel, by decide +kernel⟩
set_option maxRecDepth 20000 in
theorem zmv_RL_22 : zMv RL 22 6 yX6_pop cX6_pop 1 (some .int) 0 := ⟨⟨TX6, 18, rfl⟩, ⟨zW_mem 655 (by decide +kernel) rfl, zW_mem 656 (by decide +kernel) rfl, zW_mem 657 (by decide +kernel) rfl, zW_mem 43 (by decide +kernel) rfl, zW_mem 658 (by rfl) rfl⟩, by decide +kernel, by decide +kernel, by decide +kernel⟩
set_option maxRecDepth 20000 in
theorem zmv_RL_27 : zMv RL 27 6 yX6_change cX6_change 4 (some .int) 2 := ⟨⟨TX6, 18, rfl⟩, ⟨zW_mem 659 (by decide +kernel) rfl, zW_mem 660 (by decide +kernel) rfl, zW_mem 661 (by decide +kernel) rfl, zW_mem 43 (by decide +kernel) rfl, zW_mem 662 (by rfl) rfl⟩, by decide +kernel, by decide +kernel, by decide +kernel⟩
set_option maxRecDepth 20000 in
theorem zmv_RL_31 : zMv RL 31 6 yX6_undo cX6_undo 2 (some .int) 0 := ⟨⟨TX6, 18, rfl⟩, ⟨zW_mem 663 (by decide +kernel) rfl, zW_mem 664 (by decide +kernel) rfl, zW_mem 665 (by decide +kernel) rfl, zW_mem 43 (by decide +kernel) rfl, zW_mem 666 (by rfl) rfl⟩, by decide +kernel, by decide +kernel, by decide +kernel⟩
set_option maxRecDepth 20000 in
theorem zmv_RL_35 : zMv RL 35 6 yX6_letter cX6_letter 2 (some .int) 1 := ⟨⟨TX6, 18, rfl⟩, ⟨zW_mem 667 (by decide +kernel) rfl, zW_mem 668 (by decide +kernel) rfl, zW_mem 669 (by decide +kernel) rfl, zW_mem 43 (by decide +kernel) rfl, zW_mem 670 (by rfl) rfl⟩, by decide +kernel, by decide +kernel, by decide +kernel⟩
set_option maxRecDepth 20000 in
theorem zmv_RL_39 : zMv RL 39 6 yX6_node cX6_node 5 (some .int) 2 := ⟨⟨TX6, 18, rfl⟩, ⟨zW_mem 671 (by decide +kernel) rfl, zW_mem 672 (by decide +kernel) rfl, zW_mem 673 (by decide +kernel) rfl, zW_mem 43 (by decide +kernel) rfl, zW_mem 674 (by rfl) rfl⟩, by decide +kernel, by decide +kernel, by decide +kernel⟩
set_option maxRecDepth 20000 in
theorem zmv_RX6_111 : zMv RX6 111 6 yX6_lay cX6_lay 2 none 0 := ⟨⟨TX6, 18, rfl⟩, ⟨zW_mem 675 (by decide +kernel) rfl, zW_mem 677 (by decide +kernel) rfl, zW_mem 18 (by decide +kernel) rfl, zW_mem 43 (by decide +kernel) rfl, zW_mem 678 (by rfl) rfl⟩, by decide +kernel, by decide +kernel, by decide +kernel⟩
set_option maxRecDepth 20000 in
theorem zmv_RX6_72 : zMv RX6 72 6 yX6_isNew cX6_isNew 6 (some .boolean) 1 := ⟨⟨TX6, 18, rfl⟩, ⟨zW_mem 679 (by decide +kernel) rfl, zW_mem 681 (by decide +kernel) rfl, zW_mem 19 (by decide +kernel) rfl, zW_mem 43 (by decide +kernel) rfl, zW_mem 682 (by rfl) rfl⟩, by decide +kernel, by decide +kernel, by decide +kernel⟩
set_option maxRecDepth 20000 in
theorem zmv_RX6_61 : zMv RX6 61 6 yX6_isSame cX6_isSame 6 (some .boolean) 3 := ⟨⟨TX6, 18, rfl⟩, ⟨zW_mem 683 (by decide +kernel) rfl, zW_mem 685 (by decide +kernel) rfl, zW_mem 20 (by decide +kernel) rfl, zW_mem 43 (by decide +kernel) rfl, zW_mem 686 (by rfl) rfl⟩, by decide +kernel, by decide +kernel, by decide +kernel⟩
theorem zk_RX6_114 : Cond.constantLong RX6 114 (7) ∈ zW := zW_mem 687 (by decide +kernel) rfl
set_option maxRecDepth 20000 in
theorem zmv_RX6_116 : zMv RX6 116 6 yX6_stands cX6_stands 8 (some .int) 3 := ⟨⟨TX6, 18, rfl⟩, ⟨zW_mem 688 (by decide +kernel) rfl, zW_mem 690 (by decide +kernel) rfl, zW_mem 21 (by decide +kernel) rfl, zW_mem 43 (by decide +kernel) rfl, zW_mem 691 (by rfl) rfl⟩, by decide +kernel, by decide +kernel, by decide +kernel⟩
set_option maxRecDepth 20000 in
theorem zmv_RX6_79 : zMv RX6 79 6 yX6_link cX6_link 4 (some .int) 1 := ⟨⟨TX6, 18, rfl⟩, ⟨zW_mem 692 (by decide +kernel) rfl, zW_mem 694 (by decide +kernel) rfl, zW_mem 22 (by decide +kernel) rfl, zW_mem 43 (by decide +kernel) rfl, zW_mem 695 (by rfl) rfl⟩, by decide +kernel, by decide +kernel, by decide +kernel⟩
set_option maxRecDepth 20000 in
theorem zmv_RX6_76 : zMv RX6 76 6 yX6_nodeOf cX6_nodeOf 4 (some .int) 2 := ⟨⟨TX6, 18, rfl⟩, ⟨zW_mem 696 (by decide +kernel) rfl, zW_mem 698 (by decide +kernel) rfl, zW_mem 23 (by decide +kernel) rfl, zW_mem 43 (by decide +kernel) rfl, zW_mem 699 (by rfl) rfl⟩, by decide +kernel, by decide +kernel, by decide +kernel⟩
set_option maxRecDepth 20000 in
theorem zmv_RX6_83 : zMv RX6 83 6 yX6_less cX6_less 3 (some .int) 1 := ⟨⟨TX6, 18, rfl⟩, ⟨zW_mem 700 (by decide +kernel) rfl, zW_mem 702 (by decide +kernel) rfl, zW_mem 24 (by decide +kernel) rfl, zW_mem 43 (by decide +kernel) rfl, zW_mem 703 (by rfl) rfl⟩, by decide +kernel, by decide +kernel, by decide +kernel⟩
set_option maxRecDepth 20000 in
theorem zmv_RX6_120 : zMv RX6 120 6 yX6_series cX6_series 4 (some .int) 1 := ⟨⟨TX6, 18, rfl⟩, ⟨zW_mem 704 (by decide +kernel) rfl, zW_mem 706 (by decide +kernel) rfl, zW_mem 25 (by decide +kernel) rfl, zW_mem 43 (by decide +kernel) rfl, zW_mem 707 (by rfl) rfl⟩, by decide +kernel, by decide +kernel, by decide +kernel⟩
set_option maxRecDepth 20000 in
theorem zmv_RL_43 : zMv RL 43 6 yX6_keep cX6_keep 2 (some .int) 1 := ⟨⟨TX6, 18, rfl⟩, ⟨zW_mem 708 (by decide +kernel) rfl, zW_mem 709 (by decide +kernel) rfl, zW_mem 710 (by decide +kernel) rfl, zW_mem 43 (by decide +kernel) rfl, zW_mem 711 (by rfl) rfl⟩, by decide +kernel, by decide +kernel, by decide +kernel⟩
set_option maxRecDepth 20000 in
theorem zmv_RL_47 : zMv RL 47 6 yX6_back cX6_back 2 (some .int) 1 := ⟨⟨TX6, 18, rfl⟩, ⟨zW_mem 712 (by decide +kernel) rfl, zW_mem 713 (by decide +kernel) rfl, zW_mem 714 (by decide +kernel) rfl, zW_mem 43 (by decide +kernel) rfl, zW_mem 715 (by rfl) rfl⟩, by decide +kernel, by decide +kernel, by decide +kernel⟩
set_option maxRecDepth 20000 in
theorem zmv_RL_51 : zMv RL 51 6 yX6_common cX6_common 7 (some .int) 2 := ⟨⟨TX6, 18, rfl⟩, ⟨zW_mem 716 (by decide +kernel) rfl, zW_mem 717 (by decide +kernel) rfl, zW_mem 718 (by decide +kernel) rfl, zW_mem 43 (by decide +kernel) rfl, zW_mem 719 (by rfl) rfl⟩, by decide +kernel, by decide +kernel, by decide +kernel⟩
set_option maxRecDepth 20000 in
theorem zmv_RX6_123 : zMv RX6 123 6 yX6_isImaged cX6_isImaged 8 (some .boolean) 3 := ⟨⟨TX6, 18, rfl⟩, ⟨zW_mem 720 (by decide +kernel) rfl, zW_mem 722 (by decide +kernel) rfl, zW_mem 26 (by decide +kernel) rfl, zW_mem 43 (by decide +kernel) rfl, zW_mem 723 (by rfl) rfl⟩, by decide +kernel, by decide +kernel, by decide +kernel⟩
set_option maxRecDepth 20000 in
theorem zmv_RL_55 : zMv RL 55 6 yX6_ends cX6_ends 5 (some .int) 2 := ⟨⟨TX6, 18, rfl⟩, ⟨zW_mem 724 (by decide +kernel) rfl, zW_mem 725 (by decide +kernel) rfl, zW_mem 726 (by decide +kernel) rfl, zW_mem 43 (by decide +kernel) rfl, zW_mem 727 (by rfl) rfl⟩, by decide +kernel, by decide +kernel, by decide +kernel⟩
set_option maxRecDepth 20000 in
theorem zmv_RL_59 : zMv RL 59 6 yX6_groups cX6_groups 5 (some .int) 1 := ⟨⟨TX6, 18, rfl⟩, ⟨zW_mem 728 (by decide +kernel) rfl, zW_mem 729 (by decide +kernel) rfl, zW_mem 730 (by decide +kernel) rfl, zW_mem 43 (by decide +kernel) rfl, zW_mem 731 (by rfl) rfl⟩, by decide +kernel, by decide +kernel, by decide +kernel⟩
set_option maxRecDepth 20000 in
theorem zmv_RL_63 : zMv RL 63 6 yX6_cuts cX6_cuts 6 (some .int) 2 := ⟨⟨TX6, 18, rfl⟩, ⟨zW_mem 732 (by decide +kernel) rfl, zW_mem 733 (by decide +kernel) rfl, zW_mem 734 (by decide +kernel) rfl, zW_mem 43 (by decide +kernel) rfl, zW_mem 735 (by rfl) rfl⟩, by decide +kernel, by decide +kernel, by decide +kernel⟩
set_option maxRecDepth 20000 in
theorem zmv_RX6_126 : zMv RX6 126 6 yX6_layCuts cX6_layCuts 5 none 2 := ⟨⟨TX6, 18, rfl⟩, ⟨zW_mem 736 (by decide +kernel) rfl, zW_mem 738 (by decide +kernel) rfl, zW_mem 27 (by decide +kernel) rfl, zW_mem 43 (by decide +kernel) rfl, zW_mem 739 (by rfl) rfl⟩, by decide +kernel, by decide +kernel, by decide +kernel⟩
set_option maxRecDepth 20000 in
theorem zmv_RL_67 : zMv RL 67 6 yX6_evens cX6_evens 2 (some .int) 1 := ⟨⟨TX6, 18, rfl⟩, ⟨zW_mem 740 (by decide +kernel) rfl, zW_mem 741 (by decide +kernel) rfl, zW_mem 742 (by decide +kernel) rfl, zW_mem 43 (by decide +kernel) rfl, zW_mem 743 (by rfl) rfl⟩, by decide +kernel, by decide +kernel, by decide +kernel⟩
set_option maxRecDepth 20000 in
theorem zmv_RL_72 : zMv RL 72 6 yX6_in cX6_in 6 (some .int) 3 := ⟨⟨TX6, 18, rfl⟩, ⟨zW_mem 744 (by decide +kernel) rfl, zW_mem 745 (by decide +kernel) rfl, zW_mem 746 (by decide +kernel) rfl, zW_mem 43 (by decide +kernel) rfl, zW_mem 747 (by rfl) rfl⟩, by decide +kernel, by decide +kernel, by decide +kernel⟩
theorem zk_RX6_130 : Cond.constantLong RX6 130 (2) ∈ zW := zW_mem 748 (by decide +kernel) rfl
set_option maxRecDepth 20000 in
theorem zmv_RX6_132 : zMv RX6 132 6 yX6_unlike cX6_unlike 8 (some .int) 2 := ⟨⟨TX6, 18, rfl⟩, ⟨zW_mem 749 (by decide +kernel) rfl, zW_mem 751 (by decide +kernel) rfl, zW_mem 28 (by decide +kernel) rfl, zW_mem 43 (by decide +kernel) rfl, zW_mem 752 (by rfl) rfl⟩, by decide +kernel, by decide +kernel, by decide +kernel⟩
set_option maxRecDepth 20000 in
theorem zmv_RL_76 : zMv RL 76 6 yX6_mend cX6_mend 4 (some .int) 1 := ⟨⟨TX6, 18, rfl⟩, ⟨zW_mem 753 (by decide +kernel) rfl, zW_mem 754 (by decide +kernel) rfl, zW_mem 755 (by decide +kernel) rfl, zW_mem 43 (by decide +kernel) rfl, zW_mem 756 (by rfl) rfl⟩, by decide +kernel, by decide +kernel, by decide +kernel⟩
set_option maxRecDepth 20000 in
theorem zmv_RX6_135 : zMv RX6 135 6 yX6_fill cX6_fill 6 (some .int) 0 := ⟨⟨TX6, 18, rfl⟩, ⟨zW_mem 757 (by decide +kernel) rfl, zW_mem 759 (by decide +kernel) rfl, zW_mem 29 (by decide +kernel) rfl, zW_mem 43 (by decide +kernel) rfl, zW_mem 760 (by rfl) rfl⟩, by decide +kernel, by decide +kernel, by decide +kernel⟩
set_option maxRecDepth 20000 in
theorem zmv_RL_80 : zMv RL 80 6 yX6_turned cX6_turned 5 (some .int) 1 := ⟨⟨TX6, 18, rfl⟩, ⟨zW_mem 761 (by decide +kernel) rfl, zW_mem 762 (by decide +kernel) rfl, zW_mem 763 (by decide +kernel) rfl, zW_mem 43 (by decide +kernel) rfl, zW_mem 764 (by rfl) rfl⟩, by decide +kernel, by decide +kernel, by decide +kernel⟩
set_option maxRecDepth 20000 in
theorem zmv_RX6_139 : zMv RX6 139 6 yX6_isTurned cX6_isTurned 4 (some .boolean) 1 := ⟨⟨TX6, 18, rfl⟩, ⟨zW_mem 765 (by decide +kernel) rfl, zW_mem 767 (by decide +kernel) rfl, zW_mem 30 (by decide +kernel) rfl, zW_mem 43 (by decide +kernel) rfl, zW_mem 768 (by rfl) rfl⟩, by decide +kernel, by decide +kernel, by decide +kernel⟩
set_option maxRecDepth 20000 in
theorem zmv_RL_84 : zMv RL 84 6 yX6_next cX6_next 4 (some .int) 2 := ⟨⟨TX6, 18, rfl⟩, ⟨zW_mem 769 (by decide +kernel) rfl, zW_mem 770 (by decide +kernel) rfl, zW_mem 771 (by decide +kernel) rfl, zW_mem 43 (by decide +kernel) rfl, zW_mem 772 (by rfl) rfl⟩, by decide +kernel, by decide +kernel, by decide +kernel⟩
set_option maxRecDepth 20000 in
theorem zmv_RL_88 : zMv RL 88 6 yX6_grow cX6_grow 7 (some .int) 2 := ⟨⟨TX6, 18, rfl⟩, ⟨zW_mem 773 (by decide +kernel) rfl, zW_mem 774 (by decide +kernel) rfl, zW_mem 775 (by decide +kernel) rfl, zW_mem 43 (by decide +kernel) rfl, zW_mem 776 (by rfl) rfl⟩, by decide +kernel, by decide +kernel, by decide +kernel⟩
theorem zk_RX6_145 : Cond.constantLong RX6 145 (3) ∈ zW := zW_mem 777 (by decide +kernel) rfl
set_option maxRecDepth 20000 in
theorem zms_RX6_142 : zMs RX6 142 yX6_power cX6_power 3 (some .int) 1 := ⟨⟨zW_mem 778 (by decide +kernel) rfl, zW_mem 779 (by decide +kernel) rfl, zW_mem 43 (by decide +kernel) rfl, zW_mem 780 (by rfl) rfl⟩, by decide +kernel, by decide +kernel, by decide +kernel⟩
set_option maxRecDepth 20000 in
theorem zmv_RX6_147 : zMv RX6 147 6 yX6_more cX6_more 6 (some .int) 2 := ⟨⟨TX6, 18, rfl⟩, ⟨zW_mem 781 (by decide +kernel) rfl, zW_mem 783 (by decide +kernel) rfl, zW_mem 31 (by decide +kernel) rfl, zW_mem 43 (by decide +kernel) rfl, zW_mem 784 (by rfl) rfl⟩, by decide +kernel, by decide +kernel, by decide +kernel⟩
set_option maxRecDepth 20000 in
theorem zmv_RL_92 : zMv RL 92 6 yX6_odds cX6_odds 9 (some .int) 3 := ⟨⟨TX6, 18, rfl⟩, ⟨zW_mem 785 (by decide +kernel) rfl, zW_mem 786 (by decide +kernel) rfl, zW_mem 787 (by decide +kernel) rfl, zW_mem 43 (by decide +kernel) rfl, zW_mem 788 (by rfl) rfl⟩, by decide +kernel, by decide +kernel, by decide +kernel⟩
theorem zk_RX6_150 : Cond.constantLong RX6 150 (4) ∈ zW := zW_mem 789 (by decide +kernel) rfl
theorem zk_RX6_152 : Cond.constantLong RX6 152 (9) ∈ zW := zW_mem 790 (by decide +kernel) rfl
set_option maxRecDepth 20000 in
theorem zmv_RL_96 : zMv RL 96 6 yX6_walks cX6_walks 8 (some .int) 3 := ⟨⟨TX6, 18, rfl⟩, ⟨zW_mem 791 (by decide +kernel) rfl, zW_mem 792 (by decide +kernel) rfl, zW_mem 793 (by decide +kernel) rfl, zW_mem 43 (by decide +kernel) rfl, zW_mem 794 (by rfl) rfl⟩, by decide +kernel, by decide +kernel, by decide +kernel⟩
theorem zk_RX6_154 : Cond.constantLong RX6 154 (60) ∈ zW := zW_mem 795 (by decide +kernel) rfl
theorem zk_RX6_156 : Cond.constantLong RX6 156 (999999) ∈ zW := zW_mem 796 (by decide +kernel) rfl
theorem zk_RX6_158 : Cond.constantLong RX6 158 (16807) ∈ zW := zW_mem 797 (by decide +kernel) rfl
theorem zk_RX6_160 : Cond.constantLong RX6 160 (2147483647) ∈ zW := zW_mem 798 (by decide +kernel) rfl
theorem zk_RX6_162 : Cond.constantLong RX6 162 (64) ∈ zW := zW_mem 799 (by decide +kernel) rfl
theorem zk_RX6_164 : Cond.constantLong RX6 164 (6) ∈ zW := zW_mem 800 (by decide +kernel) rfl
set_option maxRecDepth 20000 in
theorem zmv_RL_100 : zMv RL 100 6 yX6_feed cX6_feed 2 (some .int) 1 := ⟨⟨TX6, 18, rfl⟩, ⟨zW_mem 801 (by decide +kernel) rfl, zW_mem 802 (by decide +kernel) rfl, zW_mem 803 (by decide +kernel) rfl, zW_mem 43 (by decide +kernel) rfl, zW_mem 804 (by rfl) rfl⟩, by decide +kernel, by decide +kernel, by decide +kernel⟩
theorem zk_RX6_166 : Cond.constantLong RX6 166 (255) ∈ zW := zW_mem 805 (by decide +kernel) rfl
set_option maxRecDepth 20000 in
theorem zmv_RL_104 : zMv RL 104 6 yX6_clear cX6_clear 2 (some .int) 0 := ⟨⟨TX6, 18, rfl⟩, ⟨zW_mem 806 (by decide +kernel) rfl, zW_mem 807 (by decide +kernel) rfl, zW_mem 808 (by decide +kernel) rfl, zW_mem 43 (by decide +kernel) rfl, zW_mem 809 (by rfl) rfl⟩, by decide +kernel, by decide +kernel, by decide +kernel⟩
set_option maxRecDepth 20000 in
theorem zmv_RL_108 : zMv RL 108 6 yX6_find cX6_find 3 (some .int) 0 := ⟨⟨TX6, 18, rfl⟩, ⟨zW_mem 810 (by decide +kernel) rfl, zW_mem 811 (by decide +kernel) rfl, zW_mem 812 (by decide +kernel) rfl, zW_mem 43 (by decide +kernel) rfl, zW_mem 813 (by rfl) rfl⟩, by decide +kernel, by decide +kernel, by decide +kernel⟩
set_option maxRecDepth 20000 in
theorem zmv_RX6_171 : zMv RX6 171 6 yX6_isTaped cX6_isTaped 4 (some .boolean) 1 := ⟨⟨TX6, 18, rfl⟩, ⟨zW_mem 814 (by decide +kernel) rfl, zW_mem 816 (by decide +kernel) rfl, zW_mem 32 (by decide +kernel) rfl, zW_mem 43 (by decide +kernel) rfl, zW_mem 817 (by rfl) rfl⟩, by decide +kernel, by decide +kernel, by decide +kernel⟩
set_option maxRecDepth 20000 in
theorem zmv_RL_112 : zMv RL 112 6 yX6_times cX6_times 3 (some .int) 0 := ⟨⟨TX6, 18, rfl⟩, ⟨zW_mem 818 (by decide +kernel) rfl, zW_mem 819 (by decide +kernel) rfl, zW_mem 820 (by decide +kernel) rfl, zW_mem 43 (by decide +kernel) rfl, zW_mem 821 (by rfl) rfl⟩, by decide +kernel, by decide +kernel, by decide +kernel⟩
set_option maxRecDepth 20000 in
theorem zmv_RL_116 : zMv RL 116 6 yX6_sheet cX6_sheet 5 (some .int) 3 := ⟨⟨TX6, 18, rfl⟩, ⟨zW_mem 822 (by decide +kernel) rfl, zW_mem 823 (by decide +kernel) rfl, zW_mem 824 (by decide +kernel) rfl, zW_mem 43 (by decide +kernel) rfl, zW_mem 825 (by rfl) rfl⟩, by decide +kernel, by decide +kernel, by decide +kernel⟩
set_option maxRecDepth 20000 in
theorem zms_RX6_174 : zMs RX6 174 yX6_isSheet cX6_isSheet 1 (some .boolean) 1 := ⟨⟨zW_mem 826 (by decide +kernel) rfl, zW_mem 827 (by decide +kernel) rfl, zW_mem 43 (by decide +kernel) rfl, zW_mem 828 (by rfl) rfl⟩, by decide +kernel, by decide +kernel, by decide +kernel⟩
set_option maxRecDepth 20000 in
theorem zmv_RL_120 : zMv RL 120 6 yX6_drop cX6_drop 2 (some .int) 1 := ⟨⟨TX6, 18, rfl⟩, ⟨zW_mem 829 (by decide +kernel) rfl, zW_mem 830 (by decide +kernel) rfl, zW_mem 831 (by decide +kernel) rfl, zW_mem 43 (by decide +kernel) rfl, zW_mem 832 (by rfl) rfl⟩, by decide +kernel, by decide +kernel, by decide +kernel⟩
set_option maxRecDepth 20000 in
theorem zmv_RL_127 : zMv RL 127 6 yX6_item cX6_item 7 (some .long) 4 := ⟨⟨TX6, 18, rfl⟩, ⟨zW_mem 833 (by decide +kernel) rfl, zW_mem 834 (by decide +kernel) rfl, zW_mem 835 (by decide +kernel) rfl, zW_mem 43 (by decide +kernel) rfl, zW_mem 836 (by rfl) rfl⟩, by decide +kernel, by decide +kernel, by decide +kernel⟩
theorem zk_RX6_179 : Cond.constantLong RX6 179 (-1) ∈ zW := zW_mem 837 (by decide +kernel) rfl
set_option maxRecDepth 20000 in
theorem zmv_RX6_181 : zMv RX6 181 6 yX6_whyNot cX6_whyNot 5 (some .int) 4 := ⟨⟨TX6, 18, rfl⟩, ⟨zW_mem 838 (by decide +kernel) rfl, zW_mem 840 (by decide +kernel) rfl, zW_mem 33 (by decide +kernel) rfl, zW_mem 43 (by decide +kernel) rfl, zW_mem 841 (by rfl) rfl⟩, by decide +kernel, by decide +kernel, by decide +kernel⟩
set_option maxRecDepth 20000 in
theorem zms_RX6_185 : zMs RX6 185 yX6_cut cX6_cut 3 (some .long) 2 := ⟨⟨zW_mem 842 (by decide +kernel) rfl, zW_mem 843 (by decide +kernel) rfl, zW_mem 43 (by decide +kernel) rfl, zW_mem 844 (by rfl) rfl⟩, by decide +kernel, by decide +kernel, by decide +kernel⟩
theorem zk_RX6_177 : Cond.constantLong RX6 177 (65535) ∈ zW := zW_mem 845 (by decide +kernel) rfl
set_option maxRecDepth 20000 in
theorem zmv_RL_132 : zMv RL 132 6 yX6_copy cX6_copy 7 (some .int) 5 := ⟨⟨TX6, 18, rfl⟩, ⟨zW_mem 846 (by decide +kernel) rfl, zW_mem 847 (by decide +kernel) rfl, zW_mem 848 (by decide +kernel) rfl, zW_mem 43 (by decide +kernel) rfl, zW_mem 849 (by rfl) rfl⟩, by decide +kernel, by decide +kernel, by decide +kernel⟩
set_option maxRecDepth 20000 in
theorem zmv_RL_137 : zMv RL 137 6 yX6_spell cX6_spell 8 (some .int) 4 := ⟨⟨TX6, 18, rfl⟩, ⟨zW_mem 850 (by decide +kernel) rfl, zW_mem 851 (by decide +kernel) rfl, zW_mem 852 (by decide +kernel) rfl, zW_mem 43 (by decide +kernel) rfl, zW_mem 853 (by rfl) rfl⟩, by decide +kernel, by decide +kernel, by decide +kernel⟩
set_option maxRecDepth 20000 in
theorem zmv_RL_141 : zMv RL 141 6 yX6_read cX6_read 7 (some .int) 4 := ⟨⟨TX6, 18, rfl⟩, ⟨zW_mem 854 (by decide +kernel) rfl, zW_mem 855 (by decide +kernel) rfl, zW_mem 856 (by decide +kernel) rfl, zW_mem 43 (by decide +kernel) rfl, zW_mem 857 (by rfl) rfl⟩, by decide +kernel, by decide +kernel, by decide +kernel⟩
theorem zk_RX6_189 : Cond.constantLong RX6 189 (48) ∈ zW := zW_mem 858 (by decide +kernel) rfl
set_option maxRecDepth 20000 in
theorem zmv_RL_145 : zMv RL 145 6 yX6_count cX6_count 2 (some .int) 1 := ⟨⟨TX6, 18, rfl⟩, ⟨zW_mem 859 (by decide +kernel) rfl, zW_mem 860 (by decide +kernel) rfl, zW_mem 861 (by decide +kernel) rfl, zW_mem 43 (by decide +kernel) rfl, zW_mem 862 (by rfl) rfl⟩, by decide +kernel, by decide +kernel, by decide +kernel⟩
set_option maxRecDepth 20000 in
theorem zmv_RX6_191 : zMv RX6 191 6 yX6_ofAll cX6_ofAll 5 (some .int) 1 := ⟨⟨TX6, 18, rfl⟩, ⟨zW_mem 863 (by decide +kernel) rfl, zW_mem 865 (by decide +kernel) rfl, zW_mem 34 (by decide +kernel) rfl, zW_mem 43 (by decide +kernel) rfl, zW_mem 866 (by rfl) rfl⟩, by decide +kernel, by decide +kernel, by decide +kernel⟩
theorem zk_RL_121 : Cond.constantLong RL 121 (4294967295) ∈ zW := zW_mem 867 (by decide +kernel) rfl
set_option maxRecDepth 20000 in
theorem zmn_RX4_32 : Cond.static yX5_isByte ∈ zW ∧ Cond.initialized yX5_isByte.cls ∈ zW ∧ Cond.code yX5_isByte cX5_isByte 2 (some .boolean) ∈ zW := ⟨zW_mem 477 (by decide +kernel) rfl, zW_mem 36 (by decide +kernel) rfl, zW_mem 478 (by rfl) rfl⟩
end
section
def FJ7_fill_53178_L5_B (c0 n0 : Nat) (a1 : Int) (k3 : Int) (k : Int → zM → Option (zM)) (rec : Int → zM → Option (zM)) (v2 : Int) (m_ : zM) : Option (zM) :=
if zI v2 < zI k3 then (
zwr m_ c0 v2 a1 n0 fun m1 =>
rec (v2 + 1) m1) else (
k v2 m_)
def FJ7_fill_53178_L5 (c0 n0 : Nat) (a1 : Int) (k3 : Int) (k : Int → zM → Option (zM)) : Nat → Int → zM → Option (zM) := zlp (FJ7_fill_53178_L5_B c0 n0 a1 k3 k) (fun _ _ => none)
def FJ7_fill_53178 (c0 n0 : Nat) (a1 : Int) (m : zM) : Option (zM) :=
FJ7_fill_53178_L5 c0 n0 a1 (n0 : Int) (fun y5_2 m5_ =>
some m5_) zfu 0 m
def FJ7_fill_d0a16_L6_B (c0 n0 : Nat) (a1 : Int) (k4 : Int) (k : Int → zM → Option (zM)) (rec : Int → zM → Option (zM)) (v3 : Int) (m_ : zM) : Option (zM) :=
if zI v3 < zI k4 then (
zwr m_ c0 v3 a1 n0 fun m1 =>
rec (v3 + 1) m1) else (
k v3 m_)
def FJ7_fill_d0a16_L6 (c0 n0 : Nat) (a1 : Int) (k4 : Int) (k : Int → zM → Option (zM)) : Nat → Int → zM → Option (zM) := zlp (FJ7_fill_d0a16_L6_B c0 n0 a1 k4 k) (fun _ _ => none)
def FJ7_fill_d0a16 (c0 n0 : Nat) (a1 : Int) (m : zM) : Option (zM) :=
FJ7_fill_d0a16_L6 c0 n0 a1 (n0 : Int) (fun y6_3 m6_ =>
some m6_) zfu 0 m
def FJ9_max_7cf53 (a0 : Int) (a1 : Int)  : Option (Int) :=
if zI a0 < zI a1 then (
some a1) else (
some a0)
def FJ9_min_7cf53 (a0 : Int) (a1 : Int)  : Option (Int) :=
if zI a1 < zI a0 then (
some a1) else (
some a0)
def FX0_forget  (m : zM) : Option (zM) :=
zpf m 21 3 0 fun m1 =>
some m1
def FX0_forgetOldest  (m : zM) : Option (zM) :=
zpf m 21 3 ((m 21 3) - 1) fun m1 =>
zcpy m1 22 22 1 0 (m1 21 3) 24 24 fun m2 =>
zcpy m2 23 23 1 0 (m2 21 3) 24 24 fun m3 =>
zcpy m3 24 24 1 0 (m3 21 3) 24 24 fun m4 =>
some m4
def FX0_note (a1 : Int) (a2 : Int) (a3 : Int) (m : zM) : Option (zM) :=
zjn (fun (m_ : zM) =>
zwr m_ 22 (m_ 21 3) a1 24 fun m1 =>
zwr m1 23 (m1 21 3) a2 24 fun m2 =>
zwr m2 24 (m2 21 3) a3 24 fun m3 =>
zpf m3 21 3 ((m3 21 3) + 1) fun m4 =>
some m4) fun j13 =>
if zI (m 21 3) = zI 24 then (
zcl (FX0_forgetOldest m) fun m5 =>
j13 m5) else (
j13 m)
def FX1_edge (a0 : Int) (a1 : Int)  : Option (Int) :=
some (((a0 * 6) + a1) - 97)
def FX1_removeLast (o : Nat) (m : zM) : Option (zM) :=
zpf m o 9 ((m o 9) - 1) fun m1 =>
zrd m1 (o + 2) (m1 o 9) 48 fun x2 =>
zrd m1 (o + 7) x2 50 fun x3 =>
if zI x3 = zI (m1 o 9) then (
zrd m1 (o + 6) x2 50 fun x4 =>
zrd m1 (o + 1) (m1 o 9) 48 fun x5 =>
zcl (FX1_edge x4 x5) fun r6 =>
zwr m1 (o + 9) r6 (-1) 300 fun m7 =>
zpf m7 o 10 ((m7 o 10) - 1) fun m8 =>
some m8) else (
some m1)
def FX1_longestBehind_L5_B (o : Nat) (a1 : Int) (a2 : Int)  (m : zM) (k : Int → Int → Option (Int)) (rec : Int → Int → Option (Int)) (v3 : Int) (v4 : Int) : Option (Int) :=
if zI v4 < zI 50 then (
zrd m (o + 3) v3 50 fun x1 =>
if zI (((m o 9) - 1) - x1) < zI 0 then (
zrd m (o + 4) v3 50 fun x2 =>
rec x2 (v4 + 1)) else (
zrd m (o + 1) (((m o 9) - 1) - x1) 48 fun x3 =>
if zI x3 = zI a2 then (
some v3) else (
zrd m (o + 4) v3 50 fun x4 =>
rec x4 (v4 + 1)))) else (
k v3 v4)
def FX1_longestBehind_L5 (o : Nat) (a1 : Int) (a2 : Int)  (m : zM) (k : Int → Int → Option (Int)) : Nat → Int → Int → Option (Int) := zlp (FX1_longestBehind_L5_B o a1 a2 m k) (fun _ _ => none)
def FX1_longestBehind (o : Nat) (a1 : Int) (a2 : Int) (m : zM) : Option (Int) :=
FX1_longestBehind_L5 o a1 a2 m (fun y5_3 y5_4 =>
some 49) zfu a1 0
def FX1_less (o : Nat) (a1 : Int) (m : zM) : Option (Int) :=
zrd m (o + 3) a1 50 fun x1 =>
zrd m (o + 4) a1 50 fun x2 =>
zrd m (o + 3) x2 50 fun x3 =>
some (x1 - x3)
def FX1_create (o : Nat) (a1 : Int) (a2 : Int) (m : zM) : Option (Int × zM) :=
zrd m (o + 3) a1 50 fun x1 =>
zwr m (o + 3) (m o 10) (x1 + 2) 50 fun m2 =>
zwr m2 (o + 6) (m o 10) a1 50 fun m3 =>
zwr m3 (o + 7) (m o 10) (m3 o 9) 50 fun m4 =>
zjn (fun (s0 : Int) =>
zwr m4 (o + 4) (m o 10) s0 50 fun m5 =>
zrd m5 (o + 8) s0 50 fun x6 =>
zwr m5 (o + 8) (m o 10) (x6 + 1) 50 fun m7 =>
zcl (FX1_less o (m o 10) m7) fun r8 =>
zcl (FX1_less o s0 m7) fun r9 =>
zjn (fun (s0 : Int) =>
zwr m7 (o + 5) (m o 10) s0 50 fun m10 =>
zcl (FX1_edge a1 a2) fun r11 =>
zwr m10 (o + 9) r11 (m o 10) 300 fun m12 =>
zpf m12 o 10 ((m12 o 10) + 1) fun m13 =>
some ((m o 10), m13)) fun j123 =>
if zI r8 = zI r9 then (
zrd m7 (o + 5) s0 50 fun x14 =>
j123 x14) else (
j123 s0)) fun j67 =>
if zI a1 = zI 49 then (
j67 48) else (
zrd m4 (o + 4) a1 50 fun x16 =>
zcl (FX1_longestBehind o x16 a2 m4) fun r17 =>
zcl (FX1_edge r17 a2) fun r18 =>
zrd m4 (o + 9) r18 300 fun x19 =>
j67 x19)
def FX1_add (o : Nat) (a1 : Int) (m : zM) : Option (Int × zM) :=
zwr m (o + 1) (m o 9) a1 48 fun m1 =>
zjn (fun (s0 : Int) =>
zcl (FX1_longestBehind o s0 a1 m1) fun r2 =>
zcl (FX1_edge r2 a1) fun r3 =>
zrd m1 (o + 9) r3 300 fun x4 =>
zjn (fun (u3 : Int) (m_ : zM) =>
zwr m_ (o + 2) (m_ o 9) u3 48 fun m5 =>
zpf m5 o 9 ((m5 o 9) + 1) fun m6 =>
zrd m6 (o + 3) u3 50 fun x7 =>
some (x7, m6)) fun j62 =>
if zI x4 = zI (-1) then (
zcl2 (FX1_create o r2 a1 m1) fun r8 m8 =>
j62 r8 m8) else (
j62 x4 m1)) fun j34 =>
if zI (m1 o 9) = zI 0 then (
j34 48) else (
zrd m1 (o + 2) ((m1 o 9) - 1) 48 fun x10 =>
j34 x10)
def FX1_shorten_L5_B (o : Nat) (a1 : Int) (k : Int → zM → Option (zM)) (rec : Int → zM → Option (zM)) (v2 : Int) (m_ : zM) : Option (zM) :=
if zI a1 < zI v2 then (
zcl (FX1_removeLast o m_) fun m1 =>
rec (v2 + -1) m1) else (
k v2 m_)
def FX1_shorten_L5 (o : Nat) (a1 : Int) (k : Int → zM → Option (zM)) : Nat → Int → zM → Option (zM) := zlp (FX1_shorten_L5_B o a1 k) (fun _ _ => none)
def FX1_shorten (o : Nat) (a1 : Int) (m : zM) : Option (zM) :=
FX1_shorten_L5 o a1 (fun y5_2 m5_ =>
some m5_) zfu (m o 9) m
def FX1_replace_L21_B (o : Nat) (a1 : Int) (a2 : Int) (k3 : Int) (k : Int → zM → Option (zM)) (rec : Int → zM → Option (zM)) (v4 : Int) (m_ : zM) : Option (zM) :=
if zI v4 < zI k3 then (
zrd m_ (o + 1) v4 48 fun x3 =>
zcl2 (FX1_add o x3 m_) fun r4 m4 =>
rec (v4 + 1) m4) else (
k v4 m_)
def FX1_replace_L21 (o : Nat) (a1 : Int) (a2 : Int) (k3 : Int) (k : Int → zM → Option (zM)) : Nat → Int → zM → Option (zM) := zlp (FX1_replace_L21_B o a1 a2 k3 k) (fun _ _ => none)
def FX1_replace (o : Nat) (a1 : Int) (a2 : Int) (m : zM) : Option (zM) :=
zcl (FX1_shorten o a1 m) fun m1 =>
zcl2 (FX1_add o a2 m1) fun r2 m2 =>
FX1_replace_L21 o a1 a2 (m o 9) (fun y21_4 m21_ =>
some m21_) zfu (a1 + 1) m2
def FX0_takeBackLatest (o1 : Nat) (m : zM) : Option (zM) :=
zpf m 21 3 ((m 21 3) - 1) fun m1 =>
zrd m1 22 (m1 21 3) 24 fun x2 =>
if zI x2 = zI 0 then (
zcl (FX1_removeLast o1 m1) fun m10 =>
some m10) else (
zrd m1 22 (m1 21 3) 24 fun x3 =>
if zI x3 = zI 1 then (
zrd m1 24 (m1 21 3) 24 fun x7 =>
zcl2 (FX1_add o1 x7 m1) fun r8 m8 =>
some m8) else (
zrd m1 23 (m1 21 3) 24 fun x4 =>
zrd m1 24 (m1 21 3) 24 fun x5 =>
zcl (FX1_replace o1 x4 x5 m1) fun m6 =>
some m6))
def FX1_allPlaces_L4_B (o : Nat)  (m : zM) (k : Int → Int → Option (Int)) (rec : Int → Int → Option (Int)) (v1 : Int) (v2 : Int) : Option (Int) :=
if zI v2 < zI (m o 9) then (
zrd m (o + 2) v2 48 fun x1 =>
zrd m (o + 8) x1 50 fun x2 =>
rec (v1 + x2) (v2 + 1)) else (
k v1 v2)
def FX1_allPlaces_L4 (o : Nat)  (m : zM) (k : Int → Int → Option (Int)) : Nat → Int → Int → Option (Int) := zlp (FX1_allPlaces_L4_B o m k) (fun _ _ => none)
def FX1_allPlaces (o : Nat) (m : zM) : Option (Int) :=
FX1_allPlaces_L4 o m (fun y4_1 y4_2 =>
some y4_1) zfu 0 0
def FX1_around (o : Nat) (a1 : Int) (m : zM) : Option (Int) :=
if zI a1 < zI (m o 9) then (
some a1) else (
some (a1 - (m o 9)))
def FX1_evenNodes_L4_B (o : Nat)  (m : zM) (k : Int → Int → Option (Int)) (rec : Int → Int → Option (Int)) (v1 : Int) (v2 : Int) : Option (Int) :=
if zI v2 < zI (m o 10) then (
zrd m (o + 3) v2 50 fun x1 =>
zgd (0 ≤ x1 ∧ x1 < 2147483648 ∧ 0 < 2 ∧ 2 < 2147483648) <|
if zI (x1 % 2) = zI 0 then (
rec (v1 + 1) (v2 + 1)) else (
rec v1 (v2 + 1))) else (
k v1 v2)
def FX1_evenNodes_L4 (o : Nat)  (m : zM) (k : Int → Int → Option (Int)) : Nat → Int → Int → Option (Int) := zlp (FX1_evenNodes_L4_B o m k) (fun _ _ => none)
def FX1_evenNodes (o : Nat) (m : zM) : Option (Int) :=
FX1_evenNodes_L4 o m (fun y4_1 y4_2 =>
some y4_1) zfu 0 0
def FX1_firstPlace (o : Nat) (a1 : Int) (m : zM) : Option (Int) :=
zrd m (o + 7) a1 50 fun x1 =>
zrd m (o + 3) a1 50 fun x2 =>
some ((x1 - x2) + 1)
def FX1_isMirrorTurned_L2_B (o : Nat) (a1 : Int)  (m : zM) (k : Int → Option (Int)) (rec : Int → Option (Int)) (v2 : Int) : Option (Int) :=
zgd (0 ≤ (m o 9) ∧ (m o 9) < 2147483648 ∧ 0 < 2 ∧ 2 < 2147483648) <|
if zI v2 < zI ((m o 9) / 2) then (
zcl (FX1_around o (a1 + v2) m) fun r2 =>
zrd m (o + 1) r2 48 fun x3 =>
zcl (FX1_around o (((a1 + (m o 9)) - 1) - v2) m) fun r4 =>
zrd m (o + 1) r4 48 fun x5 =>
if zI x3 = zI x5 then (
rec (v2 + 1)) else (
some 0)) else (
k v2)
def FX1_isMirrorTurned_L2 (o : Nat) (a1 : Int)  (m : zM) (k : Int → Option (Int)) : Nat → Int → Option (Int) := zlp (FX1_isMirrorTurned_L2_B o a1 m k) (fun _ => none)
def FX1_isMirrorTurned (o : Nat) (a1 : Int) (m : zM) : Option (Int) :=
FX1_isMirrorTurned_L2 o a1 m (fun y2_2 =>
some 1) zfu 0
def FX1_lastLetter (o : Nat) (m : zM) : Option (Int) :=
if zI (m o 9) = zI 0 then (
some (-1)) else (
zrd m (o + 1) ((m o 9) - 1) 48 fun x1 =>
some x1)
def FX1_standsAt_L3_B (o : Nat) (a1 : Int) (c2 n2 : Nat) (a3 : Int) (a4 : Int)  (m : zM) (k : Int → Option (Int)) (rec : Int → Option (Int)) (v5 : Int) : Option (Int) :=
if zI v5 < zI a4 then (
zrd m (o + 1) (a1 + v5) 48 fun x1 =>
zrd m c2 (a3 + v5) n2 fun x2 =>
if zI x1 = zI x2 then (
rec (v5 + 1)) else (
some 0)) else (
k v5)
def FX1_standsAt_L3 (o : Nat) (a1 : Int) (c2 n2 : Nat) (a3 : Int) (a4 : Int)  (m : zM) (k : Int → Option (Int)) : Nat → Int → Option (Int) := zlp (FX1_standsAt_L3_B o a1 c2 n2 a3 a4 m k) (fun _ => none)
def FX1_standsAt (o : Nat) (a1 : Int) (c2 n2 : Nat) (a3 : Int) (a4 : Int) (m : zM) : Option (Int) :=
FX1_standsAt_L3 o a1 c2 n2 a3 a4 m (fun y3_5 =>
some 1) zfu 0
def FX1_lastPlace_L18_B (o : Nat) (a1 : Int) (k2 : Int) (m : zM) (k : Int → Option (Int)) (rec : Int → Option (Int)) (v3 : Int) : Option (Int) :=
if zI k2 < zI v3 then (
zrd m (o + 3) a1 50 fun x3 =>
zcl (FX1_standsAt o v3 (o + 1) 48 k2 x3 m) fun r4 =>
if zI r4 = zI 0 then (
rec (v3 + -1)) else (
some v3)) else (
k v3)
def FX1_lastPlace_L18 (o : Nat) (a1 : Int) (k2 : Int) (m : zM) (k : Int → Option (Int)) : Nat → Int → Option (Int) := zlp (FX1_lastPlace_L18_B o a1 k2 m k) (fun _ => none)
def FX1_lastPlace (o : Nat) (a1 : Int) (m : zM) : Option (Int) :=
zcl (FX1_firstPlace o a1 m) fun r1 =>
zrd m (o + 3) a1 50 fun x2 =>
FX1_lastPlace_L18 o a1 r1 m (fun y18_3 =>
some r1) zfu ((m o 9) - x2)
def FX1_lengthen_L2_B (o : Nat) (a1 : Int) (k : Int → zM → Option (zM)) (rec : Int → zM → Option (zM)) (v2 : Int) (m_ : zM) : Option (zM) :=
if zI v2 < zI a1 then (
zcl2 (FX1_add o 97 m_) fun r1 m1 =>
rec (v2 + 1) m1) else (
k v2 m_)
def FX1_lengthen_L2 (o : Nat) (a1 : Int) (k : Int → zM → Option (zM)) : Nat → Int → zM → Option (zM) := zlp (FX1_lengthen_L2_B o a1 k) (fun _ _ => none)
def FX1_lengthen (o : Nat) (a1 : Int) (m : zM) : Option (zM) :=
FX1_lengthen_L2 o a1 (fun y2_2 m2_ =>
some m2_) zfu 0 m
def FX1_load_L8_B (o : Nat) (c1 n1 : Nat) (a2 : Int) (a3 : Int) (k : Int → zM → Option (zM)) (rec : Int → zM → Option (zM)) (v4 : Int) (m_ : zM) : Option (zM) :=
if zI v4 < zI a3 then (
zrd m_ c1 v4 n1 fun x2 =>
zcl2 (FX1_add o x2 m_) fun r3 m3 =>
rec (v4 + 1) m3) else (
k v4 m_)
def FX1_load_L8 (o : Nat) (c1 n1 : Nat) (a2 : Int) (a3 : Int) (k : Int → zM → Option (zM)) : Nat → Int → zM → Option (zM) := zlp (FX1_load_L8_B o c1 n1 a2 a3 k) (fun _ _ => none)
def FX1_load (o : Nat) (c1 n1 : Nat) (a2 : Int) (a3 : Int) (m : zM) : Option (zM) :=
zcl (FX1_shorten o 0 m) fun m1 =>
FX1_load_L8 o c1 n1 a2 a3 (fun y8_4 m8_ =>
some m8_) zfu a2 m1
def FX1_longestNode_L4_B (o : Nat)  (m : zM) (k : Int → Int → Option (Int)) (rec : Int → Int → Option (Int)) (v1 : Int) (v2 : Int) : Option (Int) :=
if zI v2 < zI (m o 10) then (
if zI v1 = zI (-1) then (
rec v2 (v2 + 1)) else (
zrd m (o + 3) v2 50 fun x1 =>
zrd m (o + 3) v1 50 fun x2 =>
if zI x2 < zI x1 then (
rec v2 (v2 + 1)) else (
rec v1 (v2 + 1)))) else (
k v1 v2)
def FX1_longestNode_L4 (o : Nat)  (m : zM) (k : Int → Int → Option (Int)) : Nat → Int → Int → Option (Int) := zlp (FX1_longestNode_L4_B o m k) (fun _ _ => none)
def FX1_longestNode (o : Nat) (m : zM) : Option (Int) :=
FX1_longestNode_L4 o m (fun y4_1 y4_2 =>
some y4_1) zfu (-1) 0
def FX1_nodeOf_L3_B (o : Nat) (c1 n1 : Nat) (a2 : Int) (a3 : Int)  (m : zM) (k : Int → Option (Int)) (rec : Int → Option (Int)) (v4 : Int) : Option (Int) :=
if zI v4 < zI (m o 10) then (
zrd m (o + 3) v4 50 fun x1 =>
if zI x1 = zI a3 then (
zcl (FX1_firstPlace o v4 m) fun r2 =>
zcl (FX1_standsAt o r2 c1 n1 a2 a3 m) fun r3 =>
if zI r3 = zI 0 then (
rec (v4 + 1)) else (
some v4)) else (
rec (v4 + 1))) else (
k v4)
def FX1_nodeOf_L3 (o : Nat) (c1 n1 : Nat) (a2 : Int) (a3 : Int)  (m : zM) (k : Int → Option (Int)) : Nat → Int → Option (Int) := zlp (FX1_nodeOf_L3_B o c1 n1 a2 a3 m k) (fun _ => none)
def FX1_nodeOf (o : Nat) (c1 n1 : Nat) (a2 : Int) (a3 : Int) (m : zM) : Option (Int) :=
FX1_nodeOf_L3 o c1 n1 a2 a3 m (fun y3_4 =>
some (-1)) zfu 0
def FX1_places_L6_B (o : Nat) (c1 n1 : Nat) (a2 : Int) (a3 : Int)  (m : zM) (k : Int → Int → Option (Int)) (rec : Int → Int → Option (Int)) (v4 : Int) (v5 : Int) : Option (Int) :=
if zI (m o 9) < zI (v5 + a3) then (
k v4 v5) else (
zcl (FX1_standsAt o v5 c1 n1 a2 a3 m) fun r1 =>
if zI r1 = zI 0 then (
rec v4 (v5 + 1)) else (
rec (v4 + 1) (v5 + 1)))
def FX1_places_L6 (o : Nat) (c1 n1 : Nat) (a2 : Int) (a3 : Int)  (m : zM) (k : Int → Int → Option (Int)) : Nat → Int → Int → Option (Int) := zlp (FX1_places_L6_B o c1 n1 a2 a3 m k) (fun _ _ => none)
def FX1_places (o : Nat) (c1 n1 : Nat) (a2 : Int) (a3 : Int) (m : zM) : Option (Int) :=
FX1_places_L6 o c1 n1 a2 a3 m (fun y6_4 y6_5 =>
some y6_4) zfu 0 0
def FX1_unlikePairs_L4_B (o : Nat)  (m : zM) (k : Int → Int → Option (Int)) (rec : Int → Int → Option (Int)) (v1 : Int) (v2 : Int) : Option (Int) :=
zgd (0 ≤ (m o 9) ∧ (m o 9) < 2147483648 ∧ 0 < 2 ∧ 2 < 2147483648) <|
if zI v2 < zI ((m o 9) / 2) then (
zrd m (o + 1) v2 48 fun x2 =>
zrd m (o + 1) (((m o 9) - 1) - v2) 48 fun x3 =>
if zI x2 = zI x3 then (
rec v1 (v2 + 1)) else (
rec (v1 + 1) (v2 + 1))) else (
k v1 v2)
def FX1_unlikePairs_L4 (o : Nat)  (m : zM) (k : Int → Int → Option (Int)) : Nat → Int → Int → Option (Int) := zlp (FX1_unlikePairs_L4_B o m k) (fun _ _ => none)
def FX1_unlikePairs (o : Nat) (m : zM) : Option (Int) :=
FX1_unlikePairs_L4 o m (fun y4_1 y4_2 =>
some y4_1) zfu 0 0
def FX2_reachFrom_L29_B (a1 : Int) (o2 : Nat) (a3 : Int) (k4 : Int) (k : Int → Int → zM → Option (zM)) (rec : Int → Int → zM → Option (zM)) (v5 : Int) (v6 : Int) (m_ : zM) : Option (zM) :=
if zI 0 < zI v6 then (
zrd m_ (o2 + 3) v5 50 fun x4 =>
zjn (fun (s0 : Int) =>
if zI s0 = zI 0 then (
zrd m_ (o2 + 4) v5 50 fun x5 =>
rec x5 (v6 + -1) m_) else (
zrd m_ 26 (a1 - x4) 49 fun x6 =>
if zI x6 < zI k4 then (
zrd m_ (o2 + 4) v5 50 fun x7 =>
rec x7 (v6 + -1) m_) else (
zwr m_ 26 (a1 - x4) k4 49 fun m8 =>
zwr m8 27 (a1 - x4) x4 49 fun m9 =>
zrd m9 (o2 + 4) v5 50 fun x10 =>
rec x10 (v6 + -1) m9))) fun j65 =>
if zI a3 = zI 0 then (
j65 1) else (
zgd (0 ≤ x4 ∧ x4 < 2147483648 ∧ 0 < 2 ∧ 2 < 2147483648) <|
if zI (x4 % 2) = zI 0 then (
j65 1) else (
j65 0))) else (
k v5 v6 m_)
def FX2_reachFrom_L29 (a1 : Int) (o2 : Nat) (a3 : Int) (k4 : Int) (k : Int → Int → zM → Option (zM)) : Nat → Int → Int → zM → Option (zM) := zlp (FX2_reachFrom_L29_B a1 o2 a3 k4 k) (fun _ _ _ => none)
def FX2_reachFrom (a1 : Int) (o2 : Nat) (a3 : Int) (m : zM) : Option (zM) :=
zrd m 26 a1 49 fun x1 =>
zrd m (o2 + 2) (a1 - 1) 48 fun x2 =>
zrd m (o2 + 8) x2 50 fun x3 =>
FX2_reachFrom_L29 a1 o2 a3 (x1 + 1) (fun y29_5 y29_6 m29_ =>
some m29_) zfu x2 x3 m
def FX2_cut_L20_B (o1 : Nat) (a2 : Int) (a3 : Int) (k : Int → zM → Option (zM)) (rec : Int → zM → Option (zM)) (v4 : Int) (m_ : zM) : Option (zM) :=
if zI 0 < zI v4 then (
zrd m_ 26 v4 49 fun x3 =>
if zI x3 < zI 1000 then (
zcl (FX2_reachFrom v4 o1 a3 m_) fun m4 =>
rec (v4 + -1) m4) else (
rec (v4 + -1) m_)) else (
k v4 m_)
def FX2_cut_L20 (o1 : Nat) (a2 : Int) (a3 : Int) (k : Int → zM → Option (zM)) : Nat → Int → zM → Option (zM) := zlp (FX2_cut_L20_B o1 a2 a3 k) (fun _ _ => none)
def FX2_cut (o1 : Nat) (a2 : Int) (a3 : Int) (m : zM) : Option (zM) :=
zcl (FJ7_fill_53178 26 49 1000 m) fun m1 =>
zwr m1 26 a2 0 49 fun m2 =>
FX2_cut_L20 o1 a2 a3 (fun y20_4 m20_ =>
some m20_) zfu a2 m2
def FX2_pieceLength_L4_B (a1 : Int)  (m : zM) (k : Int → Int → Option (Int)) (rec : Int → Int → Option (Int)) (v2 : Int) (v3 : Int) : Option (Int) :=
if zI v3 < zI a1 then (
zrd m 27 v2 49 fun x1 =>
rec (v2 + x1) (v3 + 1)) else (
k v2 v3)
def FX2_pieceLength_L4 (a1 : Int)  (m : zM) (k : Int → Int → Option (Int)) : Nat → Int → Int → Option (Int) := zlp (FX2_pieceLength_L4_B a1 m k) (fun _ _ => none)
def FX2_pieceLength (a1 : Int) (m : zM) : Option (Int) :=
FX2_pieceLength_L4 a1 m (fun y4_2 y4_3 =>
zrd m 27 y4_2 49 fun x3 =>
some x3) zfu 0 0
def FX2_pieces  (m : zM) : Option (Int) :=
zrd m 26 0 49 fun x1 =>
some x1
def FX3_append (o : Nat) (a1 : Int) (m : zM) : Option (zM) :=
zwr m (o + 1) (m o 1) a1 48 fun m1 =>
zpf m1 o 1 ((m1 o 1) + 1) fun m2 =>
some m2
def FX3_hold (o : Nat) (c1 n1 : Nat) (a2 : Int) (m : zM) : Option (zM) :=
zcpy m c1 (o + 1) 0 0 a2 n1 48 fun m1 =>
zpf m1 o 1 a2 fun m2 =>
some m2
def FX4_begin (o : Nat) (a1 : Int) (a2 : Int) (m : zM) : Option (zM) :=
zcl (FJ7_fill_d0a16 (o + 1) 48 0 m) fun m1 =>
zpf m1 o 1 a1 fun m2 =>
zpf m2 o 2 a2 fun m3 =>
some m3
def FX5_isByte (a0 : Int)  : Option (Int) :=
if zJ a0 < zJ 0 then (
some 0) else (
if zJ 255 < zJ a0 then (
some 0) else (
some 1))
def FX4_holdsBytes_L2_B (o : Nat) (a1 : Int) (a2 : Int)  (m : zM) (k : Int → Option (Int)) (rec : Int → Option (Int)) (v3 : Int) : Option (Int) :=
if zI v3 < zI a2 then (
zrd m (o + 1) (a1 + v3) 48 fun x1 =>
zcl (FX5_isByte x1) fun r2 =>
if zI r2 = zI 0 then (
some 0) else (
rec (v3 + 1))) else (
k v3)
def FX4_holdsBytes_L2 (o : Nat) (a1 : Int) (a2 : Int)  (m : zM) (k : Int → Option (Int)) : Nat → Int → Option (Int) := zlp (FX4_holdsBytes_L2_B o a1 a2 m k) (fun _ => none)
def FX4_holdsBytes (o : Nat) (a1 : Int) (a2 : Int) (m : zM) : Option (Int) :=
FX4_holdsBytes_L2 o a1 a2 m (fun y2_3 =>
some 1) zfu 0
def FX4_narrowed (o : Nat) (a1 : Int) (m : zM) : Option (Int) :=
if zI (m o 1) = zI 0 then (
zgd (-2147483648 ≤ (zch a1) ∧ (zch a1) < 2147483648) <|
some (zch a1)) else (
if zI (m o 1) = zI 1 then (
zgd (-2147483648 ≤ (zsh a1) ∧ (zsh a1) < 2147483648) <|
some (zsh a1)) else (
if zI (m o 1) = zI 2 then (
zgd (-2147483648 ≤ a1 ∧ a1 < 2147483648) <|
some a1) else (
some a1)))
def FX4_refusal (o : Nat) (a1 : Int) (a2 : Int) (a3 : Int) (m : zM) : Option (Int) :=
if zI (m o 2) = zI (-1) then (
some (-11)) else (
if zI (m o 1) = zI a1 then (
if zI a2 < zI 0 then (
some (-13)) else (
if zI a3 < zI 0 then (
some (-13)) else (
if zI ((m o 2) - a3) < zI a2 then (
some (-13)) else (
some 0)))) else (
some (-12)))
def FX4_store (o : Nat) (a1 : Int) (a2 : Int) (m : zM) : Option (Int × zM) :=
zcl (FX4_narrowed o a2 m) fun r1 =>
zwr m (o + 1) a1 r1 48 fun m2 =>
zrd m2 (o + 1) a1 48 fun x3 =>
some (x3, m2)
def FX5_within (a0 : Int) (a1 : Int) (a2 : Int)  : Option (Int) :=
if zI a0 < zI a1 then (
some 0) else (
if zI a2 < zI a0 then (
some 0) else (
some 1))
def FX5_back (a1 : Int) (m : zM) : Option (Int × zM) :=
zcl (FX5_within a1 0 1) fun r1 =>
if zI r1 = zI 0 then (
some ((-1), m)) else (
zix a1 2 <|
if zI (m (29 + 2 * (a1).toNat) 1) = zI (-1) then (
some ((-2), m)) else (
zcl (FX1_load 1 ((29 + 2 * (a1).toNat) + 1) 48 0 (m (29 + 2 * (a1).toNat) 1) m) fun m3 =>
zcl (FX0_forget m3) fun m4 =>
some ((m4 1 9), m4)))
def FX5_isPlace (a1 : Int) (m : zM) : Option (Int) :=
zcl (FX5_within a1 0 ((m 1 9) - 1)) fun r1 =>
zgd (r1 = 0 ∨ r1 = 1) <|
some r1
def FX5_isLetter (a0 : Int)  : Option (Int) :=
zcl (FX5_within a0 97 102) fun r1 =>
zgd (r1 = 0 ∨ r1 = 1) <|
some r1
def FX5_change (a1 : Int) (a2 : Int) (m : zM) : Option (Int × zM) :=
zcl (FX5_isPlace a1 m) fun r1 =>
if zI r1 = zI 0 then (
some ((-1), m)) else (
zcl (FX5_isLetter a2) fun r2 =>
if zI r2 = zI 0 then (
some ((-1), m)) else (
zrd m 2 a1 48 fun x3 =>
if zI x3 = zI a2 then (
some ((-2), m)) else (
zcl (FX1_replace 1 a1 a2 m) fun m4 =>
zcl (FX0_note 2 a1 x3 m4) fun m5 =>
some (x3, m5))))
def FX5_clear  (m : zM) : Option (Int × zM) :=
zpf m 33 1 0 fun m1 =>
some ((m 33 1), m1)
def FX5_common_L63_B (a1 : Int) (a2 : Int)  (mc : zM) (k : Int → Int → Int → Option (Int × zM)) (rec : Int → Int → Int → Option (Int × zM)) (v4 : Int) (v5 : Int) (v6 : Int) : Option (Int × zM) :=
if zI v6 < zI (mc 11 10) then (
zrd mc 14 v6 50 fun x5 =>
zcl (FX1_firstPlace 11 v6 mc) fun r6 =>
zcl (FX1_nodeOf 1 12 48 r6 x5 mc) fun r7 =>
if zI r7 = zI (-1) then (
rec v4 v5 (v6 + 1)) else (
zcl (FJ9_max_7cf53 v5 x5) fun r8 =>
rec (v4 + 1) r8 (v6 + 1))) else (
k v4 v5 v6)
def FX5_common_L63 (a1 : Int) (a2 : Int)  (mc : zM) (k : Int → Int → Int → Option (Int × zM)) : Nat → Int → Int → Int → Option (Int × zM) := zlp (FX5_common_L63_B a1 a2 mc k) (fun _ _ _ => none)
def FX5_common (a1 : Int) (a2 : Int) (m : zM) : Option (Int × zM) :=
zcl (FX5_within a1 0 1) fun r1 =>
if zI r1 = zI 0 then (
some ((-1), m)) else (
zcl (FX5_within a2 0 1) fun r2 =>
if zI r2 = zI 0 then (
some ((-1), m)) else (
zix a1 2 <|
if zI (m (29 + 2 * (a1).toNat) 1) = zI (-1) then (
some ((-2), m)) else (
zcl (FX1_load 11 ((29 + 2 * (a1).toNat) + 1) 48 0 (m (29 + 2 * (a1).toNat) 1) m) fun m4 =>
FX5_common_L63 a1 a2 m4 (fun y63_4 y63_5 y63_6 =>
if zI a2 = zI 0 then (
some (y63_4, m4)) else (
some (y63_5, m4))) zfu 0 0 0)))
def FX5_isSheet (a0 : Int)  : Option (Int) :=
zcl (FX5_within a0 0 3) fun r1 =>
zgd (r1 = 0 ∨ r1 = 1) <|
some r1
def FX5_copy (a1 : Int) (a2 : Int) (a3 : Int) (a4 : Int) (a5 : Int) (m : zM) : Option (Int × zM) :=
zcl (FX5_isSheet a1) fun r1 =>
if zI r1 = zI 0 then (
some ((-1), m)) else (
zcl (FX5_isSheet a3) fun r2 =>
if zI r2 = zI 0 then (
some ((-1), m)) else (
zix a1 4 <|
zix a3 4 <|
if zI (m (36 + 2 * (a1).toNat) 2) = zI (-1) then (
some ((-11), m)) else (
if zI (m (36 + 2 * (a3).toNat) 2) = zI (-1) then (
some ((-11), m)) else (
zcl (FX4_refusal (36 + 2 * (a3).toNat) (m (36 + 2 * (a1).toNat) 1) a4 a5 m) fun r5 =>
zjn (fun (u8 : Int) =>
if zI u8 = zI 0 then (
zcpy m ((36 + 2 * (a1).toNat) + 1) ((36 + 2 * (a3).toNat) + 1) a2 a4 a5 48 48 fun m6 =>
some (a5, m6)) else (
some (u8, m))) fun j89 =>
if zI r5 = zI 0 then (
zcl (FX4_refusal (36 + 2 * (a1).toNat) (m (36 + 2 * (a1).toNat) 1) a2 a5 m) fun r8 =>
j89 r8) else (
j89 r5)))))
def FX5_count (a1 : Int) (m : zM) : Option (Int) :=
if zI a1 = zI 0 then (
some (m 1 9)) else (
if zI a1 = zI 1 then (
some (m 1 10)) else (
if zI a1 = zI 2 then (
zcl (FX1_allPlaces 1 m) fun r2 =>
some r2) else (
if zI a1 = zI 3 then (
zcl (FX1_evenNodes 1 m) fun r3 =>
some r3) else (
if zI a1 = zI 4 then (
zcl (FX1_longestNode 1 m) fun r4 =>
if zI r4 = zI (-1) then (
some 0) else (
zrd m 4 r4 50 fun x5 =>
some x5)) else (
if zI a1 = zI 5 then (
if zI (m 1 10) = zI (m 1 9) then (
some 1) else (
some 0)) else (
if zI a1 = zI 6 then (
some (m 21 3)) else (
if zI a1 = zI 7 then (
some (m 33 1)) else (
some (-1)))))))))
def FX5_cuts (a1 : Int) (a2 : Int) (m : zM) : Option (Int × zM) :=
zcl (FX5_within a1 0 (m 1 9)) fun r1 =>
if zI r1 = zI 0 then (
some ((-1), m)) else (
if zI a2 < zI (-1) then (
some ((-1), m)) else (
zcl (FX2_cut 1 a1 0 m) fun m2 =>
zcl (FX2_pieces m2) fun r3 =>
if zI a2 = zI (-1) then (
some (r3, m2)) else (
if zI a2 < zI r3 then (
zcl (FX2_pieceLength a2 m2) fun r4 =>
some (r4, m2)) else (
some ((-4), m2)))))
def FX5_drop (a1 : Int) (m : zM) : Option (Int × zM) :=
zcl (FX5_isSheet a1) fun r1 =>
if zI r1 = zI 0 then (
some ((-1), m)) else (
zix a1 4 <|
if zI (m (36 + 2 * (a1).toNat) 2) = zI (-1) then (
some ((-11), m)) else (
zix a1 4 <|
zpf m (36 + 2 * (a1).toNat) 2 (-1) fun m4 =>
some ((m (36 + 2 * (a1).toNat) 2), m4)))
def FX5_ends_L56_B (a1 : Int) (a2 : Int)  (m : zM) (k : Int → Int → Option (Int)) (rec : Int → Int → Option (Int)) (v3 : Int) (v5 : Int) : Option (Int) :=
if zI v5 < zI a2 then (
zrd m 5 v3 50 fun x4 =>
rec x4 (v5 + 1)) else (
k v3 v5)
def FX5_ends_L56 (a1 : Int) (a2 : Int)  (m : zM) (k : Int → Int → Option (Int)) : Nat → Int → Int → Option (Int) := zlp (FX5_ends_L56_B a1 a2 m k) (fun _ _ => none)
def FX5_ends (a1 : Int) (a2 : Int) (m : zM) : Option (Int) :=
zcl (FX5_isPlace a1 m) fun r1 =>
if zI r1 = zI 0 then (
some (-1)) else (
if zI a2 < zI (-1) then (
some (-1)) else (
zrd m 3 a1 48 fun x2 =>
zrd m 9 x2 50 fun x3 =>
if zI a2 = zI (-1) then (
some x3) else (
if zI a2 < zI x3 then (
FX5_ends_L56 a1 a2 m (fun y56_3 y56_5 =>
zrd m 4 y56_3 50 fun x6 =>
some x6) zfu x2 0) else (
some (-4)))))
def FX5_evens (a1 : Int) (m : zM) : Option (Int × zM) :=
zcl (FX5_within a1 0 (m 1 9)) fun r1 =>
if zI r1 = zI 0 then (
some ((-1), m)) else (
zcl (FX2_cut 1 a1 1 m) fun m2 =>
zcl (FX2_pieces m2) fun r3 =>
if zI r3 < zI 1000 then (
some (r3, m2)) else (
some ((-4), m2)))
def FX5_feed (a1 : Int) (m : zM) : Option (Int × zM) :=
zgd (-2147483648 ≤ a1 ∧ a1 < 2147483648) <|
zcl (FX5_isByte a1) fun r2 =>
if zI r2 = zI 0 then (
some ((-1), m)) else (
if zI (m 33 1) = zI 48 then (
some ((-3), m)) else (
zcl (FX3_append 33 a1 m) fun m3 =>
some ((m3 33 1), m3)))
def FX5_fewestFills_L36_B (k2 : Int) (k : Int → Int → zM → Option (Int × zM)) (rec : Int → Int → zM → Option (Int × zM)) (v3 : Int) (v4 : Int) (m_ : zM) : Option (Int × zM) :=
if zI v4 < zI (m_ 1 9) then (
zrd m_ 45 v4 48 fun x2 =>
zrd m_ 2 k2 48 fun x3 =>
zrd m_ 2 v4 48 fun x4 =>
if zI x3 = zI x4 then (
zwr m_ 45 v4 v3 48 fun m8 =>
rec x2 (v4 + 1) m8) else (
zrd m_ 45 (v4 - 1) 48 fun x5 =>
zcl (FJ9_min_7cf53 x2 x5) fun r6 =>
zwr m_ 45 v4 (1 + r6) 48 fun m7 =>
rec x2 (v4 + 1) m7)) else (
k v3 v4 m_)
def FX5_fewestFills_L36 (k2 : Int) (k : Int → Int → zM → Option (Int × zM)) : Nat → Int → Int → zM → Option (Int × zM) := zlp (FX5_fewestFills_L36_B k2 k) (fun _ _ _ => none)
def FX5_fewestFills_L18_B  (k : Int → zM → Option (Int × zM)) (rec : Int → zM → Option (Int × zM)) (v2 : Int) (m_ : zM) : Option (Int × zM) :=
if zI v2 < zI 0 then (
k v2 m_) else (
zwr m_ 45 v2 0 48 fun m1 =>
FX5_fewestFills_L36 v2 (fun y36_3 y36_4 m36_ =>
rec (v2 + -1) m36_) zfu 0 (v2 + 1) m1)
def FX5_fewestFills_L18  (k : Int → zM → Option (Int × zM)) : Nat → Int → zM → Option (Int × zM) := zlp (FX5_fewestFills_L18_B  k) (fun _ _ => none)
def FX5_fewestFills  (m : zM) : Option (Int × zM) :=
FX5_fewestFills_L18  (fun y18_2 m18_ =>
if zI (m18_ 1 9) = zI 0 then (
some (0, m18_)) else (
zrd m18_ 45 ((m18_ 1 9) - 1) 48 fun x12 =>
some (x12, m18_))) zfu ((m 1 9) - 1) m
def FX5_find  (m : zM) : Option (Int) :=
zcl (FX1_nodeOf 1 34 48 0 (m 33 1) m) fun r1 =>
if zI r1 = zI (-1) then (
some (-4)) else (
some r1)
def FX5_greatestDivisor_L7_B (a0 : Int) (a1 : Int) (k : Int → Int → Int → Option (Int)) (rec : Int → Int → Int → Option (Int)) (v2 : Int) (v3 : Int) (v4 : Int) : Option (Int) :=
if zI v4 < zI 48 then (
if zI v3 = zI 0 then (
k v2 v3 v4) else (
zgd (0 ≤ v2 ∧ v2 < 2147483648 ∧ 0 < v3 ∧ v3 < 2147483648) <|
rec v3 (v2 % v3) (v4 + 1))) else (
k v2 v3 v4)
def FX5_greatestDivisor_L7 (a0 : Int) (a1 : Int) (k : Int → Int → Int → Option (Int)) : Nat → Int → Int → Int → Option (Int) := zlp (FX5_greatestDivisor_L7_B a0 a1 k) (fun _ _ _ => none)
def FX5_greatestDivisor (a0 : Int) (a1 : Int)  : Option (Int) :=
FX5_greatestDivisor_L7 a0 a1 (fun y7_2 y7_3 y7_4 =>
some y7_2) zfu a0 a1 0
def FX5_groups_L33_B (a1 : Int)  (m : zM) (k : Int → Int → Int → Option (Int)) (rec : Int → Int → Int → Option (Int)) (v2 : Int) (v3 : Int) (v4 : Int) : Option (Int) :=
if zI v4 < zI 48 then (
if zI v3 < zI 48 then (
zrd m 6 v3 50 fun x4 =>
rec (v2 + 1) x4 (v4 + 1)) else (
k v2 v3 v4)) else (
k v2 v3 v4)
def FX5_groups_L33 (a1 : Int)  (m : zM) (k : Int → Int → Int → Option (Int)) : Nat → Int → Int → Int → Option (Int) := zlp (FX5_groups_L33_B a1 m k) (fun _ _ _ => none)
def FX5_groups (a1 : Int) (m : zM) : Option (Int) :=
zcl (FX5_isPlace a1 m) fun r1 =>
if zI r1 = zI 0 then (
some (-1)) else (
zrd m 3 a1 48 fun x2 =>
zrd m 6 x2 50 fun x3 =>
FX5_groups_L33 a1 m (fun y33_2 y33_3 y33_4 =>
some y33_2) zfu 1 x3 0)
def FX5_rowsOf_L4_B (a0 : Int) (k : Int → Int → Option (Int)) (rec : Int → Int → Option (Int)) (v1 : Int) (v2 : Int) : Option (Int) :=
if zI v2 < zI a0 then (
rec (v1 * 6) (v2 + 1)) else (
k v1 v2)
def FX5_rowsOf_L4 (a0 : Int) (k : Int → Int → Option (Int)) : Nat → Int → Int → Option (Int) := zlp (FX5_rowsOf_L4_B a0 k) (fun _ _ => none)
def FX5_rowsOf (a0 : Int)  : Option (Int) :=
FX5_rowsOf_L4 a0 (fun y4_1 y4_2 =>
some y4_1) zfu 1 0
def FX5_startRows (a1 : Int) (m : zM) : Option (zM) :=
zcl (FX1_load 11 2 48 0 (m 1 9) m) fun m1 =>
zcl (FX1_lengthen 11 a1 m1) fun m2 =>
some m2
def FX5_stepRow_L4_B (a1 : Int) (k : Int → Int → zM → Option (zM)) (rec : Int → Int → zM → Option (zM)) (v2 : Int) (v3 : Int) (m_ : zM) : Option (zM) :=
if zI v3 < zI a1 then (
zcl (FX1_lastLetter 11 m_) fun r1 =>
if zI r1 = zI 102 then (
zcl (FX1_removeLast 11 m_) fun m2 =>
rec (v2 + 1) (v3 + 1) m2) else (
k v2 v3 m_)) else (
k v2 v3 m_)
def FX5_stepRow_L4 (a1 : Int) (k : Int → Int → zM → Option (zM)) : Nat → Int → Int → zM → Option (zM) := zlp (FX5_stepRow_L4_B a1 k) (fun _ _ _ => none)
def FX5_stepRow (a1 : Int) (m : zM) : Option (zM) :=
FX5_stepRow_L4 a1 (fun y4_2 y4_3 m4_ =>
zjn (fun (m_ : zM) =>
zcl (FX1_lengthen 11 y4_2 m_) fun m5 =>
some m5) fun j68 =>
if zI y4_2 < zI a1 then (
zcl (FX1_lastLetter 11 m4_) fun r6 =>
zcl (FX1_removeLast 11 m4_) fun m7 =>
zcl2 (FX1_add 11 (r6 + 1) m7) fun r8 m8 =>
j68 m8) else (
j68 m4_)) zfu 0 0 m
def FX5_growMost_L15_B (a1 : Int) (k3 : Int) (k : Int → Int → zM → Option (Int × zM)) (rec : Int → Int → zM → Option (Int × zM)) (v2 : Int) (v4 : Int) (m_ : zM) : Option (Int × zM) :=
if zI v4 < zI k3 then (
zjn (fun (u2 : Int) (m_ : zM) =>
zcl (FX5_stepRow a1 m_) fun m3 =>
rec u2 (v4 + 1) m3) fun j63 =>
if zI v2 < zI (m_ 11 10) then (
zcpy m_ 12 44 (m_ 1 9) 0 a1 48 3 fun m4 =>
j63 (m_ 11 10) m4) else (
j63 v2 m_)) else (
k v2 v4 m_)
def FX5_growMost_L15 (a1 : Int) (k3 : Int) (k : Int → Int → zM → Option (Int × zM)) : Nat → Int → Int → zM → Option (Int × zM) := zlp (FX5_growMost_L15_B a1 k3 k) (fun _ _ _ => none)
def FX5_growMost (a1 : Int) (m : zM) : Option (Int × zM) :=
zcl (FX5_rowsOf a1) fun r1 =>
zcl (FX5_startRows a1 m) fun m2 =>
FX5_growMost_L15 a1 r1 (fun y15_2 y15_4 m15_ =>
some (y15_2, m15_)) zfu (-1) 0 m2
def FX5_grow (a1 : Int) (a2 : Int) (m : zM) : Option (Int × zM) :=
zcl (FX5_within a1 0 3) fun r1 =>
if zI r1 = zI 0 then (
some ((-1), m)) else (
if zI a2 < zI (-1) then (
some ((-1), m)) else (
if zI 48 < zI ((m 1 9) + a1) then (
some ((-3), m)) else (
if zI a2 < zI a1 then (
zcl2 (FX5_growMost a1 m) fun r2 m2 =>
if zI a2 = zI (-1) then (
some (r2, m2)) else (
zrd m2 44 a2 3 fun x3 =>
some (x3, m2))) else (
some ((-4), m)))))
def FX5_in (a1 : Int) (a2 : Int) (a3 : Int) (m : zM) : Option (Int × zM) :=
if zI a1 < zI 0 then (
some ((-1), m)) else (
if zI a2 < zI a1 then (
some ((-1), m)) else (
if zI (m 1 9) < zI a2 then (
some ((-1), m)) else (
zcl (FX5_within a3 0 2) fun r1 =>
if zI r1 = zI 0 then (
some ((-1), m)) else (
zcl (FX1_load 11 2 48 a1 a2 m) fun m2 =>
if zI a3 = zI 2 then (
some ((m2 11 10), m2)) else (
zcl (FX1_longestNode 11 m2) fun r3 =>
if zI a3 = zI 0 then (
if zI r3 = zI (-1) then (
some (0, m2)) else (
zrd m2 14 r3 50 fun x6 =>
some (x6, m2))) else (
if zI r3 = zI (-1) then (
some ((-4), m2)) else (
zcl (FX1_firstPlace 11 r3 m2) fun r4 =>
some ((a1 + r4), m2))))))))
def FX5_isLane (a0 : Int)  : Option (Int) :=
zcl (FX5_within a0 0 3) fun r1 =>
zgd (r1 = 0 ∨ r1 = 1) <|
some r1
def FX5_isNode (a1 : Int) (m : zM) : Option (Int) :=
zcl (FX5_within a1 0 ((m 1 10) - 1)) fun r1 =>
zgd (r1 = 0 ∨ r1 = 1) <|
some r1
def FX5_item (a1 : Int) (a2 : Int) (a3 : Int) (a4 : Int) (m : zM) : Option (Int × zM) :=
zcl (FX5_isSheet a1) fun r1 =>
if zI r1 = zI 0 then (
some ((-1), m)) else (
zcl (FX5_isLane a2) fun r2 =>
if zI r2 = zI 0 then (
some ((-1), m)) else (
zix a1 4 <|
zcl (FX4_refusal (36 + 2 * (a1).toNat) a2 a3 1 m) fun r4 =>
if zI r4 = zI 0 then (
zix a1 4 <|
zcl2 (FX4_store (36 + 2 * (a1).toNat) a3 a4 m) fun r6 m6 =>
some (r6, m6)) else (
zgd (-2147483648 ≤ r4 ∧ r4 < 2147483648) <|
some (r4, m))))
def FX5_keep (a1 : Int) (m : zM) : Option (Int × zM) :=
zcl (FX5_within a1 0 1) fun r1 =>
if zI r1 = zI 0 then (
some ((-1), m)) else (
zix a1 2 <|
zcl (FX3_hold (29 + 2 * (a1).toNat) 2 48 (m 1 9) m) fun m3 =>
some ((m3 1 9), m3))
def FX5_letter (a1 : Int) (m : zM) : Option (Int) :=
zcl (FX5_isPlace a1 m) fun r1 =>
if zI r1 = zI 0 then (
some (-1)) else (
zrd m 2 a1 48 fun x2 =>
some x2)
def FX5_mend (a1 : Int) (m : zM) : Option (Int × zM) :=
if zI a1 = zI 0 then (
zcl (FX1_unlikePairs 1 m) fun r3 =>
some (r3, m)) else (
if zI a1 = zI 1 then (
zcl2 (FX5_fewestFills m) fun r1 m1 =>
some (r1, m1)) else (
some ((-1), m)))
def FX5_next (a1 : Int) (a2 : Int) (m : zM) : Option (Int × zM) :=
zcl (FX5_isLetter a1) fun r1 =>
if zI r1 = zI 0 then (
some ((-1), m)) else (
zcl (FX5_within a2 0 1) fun r2 =>
if zI r2 = zI 0 then (
some ((-1), m)) else (
if zI (m 1 9) = zI 48 then (
some ((-3), m)) else (
zcl (FX1_load 11 2 48 0 (m 1 9) m) fun m3 =>
zcl2 (FX1_add 11 a1 m3) fun r4 m4 =>
if zI a2 = zI 0 then (
some (r4, m4)) else (
some (((m4 11 10) - (m4 1 10)), m4)))))
def FX5_nodeOrNone (a0 : Int)  : Option (Int) :=
if zI a0 < zI 48 then (
some a0) else (
some (-4))
def FX5_node (a1 : Int) (a2 : Int) (m : zM) : Option (Int) :=
zcl (FX5_isNode a1 m) fun r1 =>
if zI r1 = zI 0 then (
some (-1)) else (
if zI a2 = zI 0 then (
zrd m 4 a1 50 fun x3 =>
some x3) else (
if zI a2 = zI 1 then (
zcl (FX1_firstPlace 1 a1 m) fun r4 =>
some r4) else (
if zI a2 = zI 2 then (
zcl (FX1_lastPlace 1 a1 m) fun r5 =>
some r5) else (
if zI a2 = zI 3 then (
zcl (FX1_firstPlace 1 a1 m) fun r6 =>
zrd m 4 a1 50 fun x7 =>
zcl (FX1_places 1 2 48 r6 x7 m) fun r8 =>
some r8) else (
if zI a2 = zI 4 then (
zrd m 5 a1 50 fun x9 =>
zcl (FX5_nodeOrNone x9) fun r10 =>
some r10) else (
if zI a2 = zI 5 then (
zcl (FX1_less 1 a1 m) fun r11 =>
some r11) else (
if zI a2 = zI 6 then (
zrd m 6 a1 50 fun x12 =>
zcl (FX5_nodeOrNone x12) fun r13 =>
some r13) else (
if zI a2 = zI 7 then (
zrd m 7 a1 50 fun x14 =>
zcl (FX5_nodeOrNone x14) fun r15 =>
some r15) else (
some (-1))))))))))
def FX5_rowsThatBring_L16_B (a1 : Int) (a2 : Int) (k4 : Int) (k : Int → Int → zM → Option (Int × zM)) (rec : Int → Int → zM → Option (Int × zM)) (v3 : Int) (v5 : Int) (m_ : zM) : Option (Int × zM) :=
if zI v5 < zI k4 then (
zjn (fun (u3 : Int) =>
zcl (FX5_stepRow a1 m_) fun m3 =>
rec u3 (v5 + 1) m3) fun j45 =>
if zI ((m_ 11 10) - (m_ 1 10)) < zI a2 then (
j45 v3) else (
j45 (v3 + 1))) else (
k v3 v5 m_)
def FX5_rowsThatBring_L16 (a1 : Int) (a2 : Int) (k4 : Int) (k : Int → Int → zM → Option (Int × zM)) : Nat → Int → Int → zM → Option (Int × zM) := zlp (FX5_rowsThatBring_L16_B a1 a2 k4 k) (fun _ _ _ => none)
def FX5_rowsThatBring (a1 : Int) (a2 : Int) (m : zM) : Option (Int × zM) :=
zcl (FX5_rowsOf a1) fun r1 =>
zcl (FX5_startRows a1 m) fun m2 =>
FX5_rowsThatBring_L16 a1 a2 r1 (fun y16_3 y16_5 m16_ =>
some (y16_3, m16_)) zfu 0 0 m2
def FX5_odds (a1 : Int) (a2 : Int) (a3 : Int) (m : zM) : Option (Int × zM) :=
zcl (FX5_within a1 0 4) fun r1 =>
if zI r1 = zI 0 then (
some ((-1), m)) else (
zcl (FX5_within a2 0 9) fun r2 =>
if zI r2 = zI 0 then (
some ((-1), m)) else (
zcl (FX5_within a3 0 1) fun r3 =>
if zI r3 = zI 0 then (
some ((-1), m)) else (
if zI 48 < zI ((m 1 9) + a1) then (
some ((-3), m)) else (
zcl (FX5_rowsOf a1) fun r4 =>
zcl2 (FX5_rowsThatBring a1 a2 m) fun r5 m5 =>
zcl (FX5_greatestDivisor r5 r4) fun r6 =>
if zI r6 < zI 1 then (
some ((-1), m5)) else (
if zI a3 = zI 0 then (
zgd (0 ≤ r5 ∧ r5 < 2147483648 ∧ 0 < r6 ∧ r6 < 2147483648) <|
some ((r5 / r6), m5)) else (
zgd (0 ≤ r4 ∧ r4 < 2147483648 ∧ 0 < r6 ∧ r6 < 2147483648) <|
some ((r4 / r6), m5)))))))
def FX5_pop  (m : zM) : Option (Int × zM) :=
if zI (m 1 9) = zI 0 then (
some ((-2), m)) else (
zcl (FX1_lastLetter 1 m) fun r1 =>
zcl (FX1_removeLast 1 m) fun m2 =>
zcl (FX0_note 1 (m2 1 9) r1 m2) fun m3 =>
some (r1, m3))
def FX5_put (a1 : Int) (m : zM) : Option (Int × zM) :=
zcl (FX5_isLetter a1) fun r1 =>
if zI r1 = zI 0 then (
some ((-1), m)) else (
if zI (m 1 9) = zI 48 then (
some ((-3), m)) else (
zcl (FX0_note 0 (m 1 9) a1 m) fun m2 =>
zcl2 (FX1_add 1 a1 m2) fun r3 m3 =>
some (r3, m3)))
def FX5_read_L89_B (a1 : Int) (a2 : Int) (a3 : Int) (a4 : Int) (k : Int → zM → Option (Int × zM)) (rec : Int → zM → Option (Int × zM)) (v7 : Int) (m_ : zM) : Option (Int × zM) :=
if zI v7 < zI a4 then (
zrd m_ ((36 + 2 * (a1).toNat) + 1) (a3 + v7) 48 fun x7 =>
zcl (FX3_append 33 x7 m_) fun m8 =>
rec (v7 + 1) m8) else (
k v7 m_)
def FX5_read_L89 (a1 : Int) (a2 : Int) (a3 : Int) (a4 : Int) (k : Int → zM → Option (Int × zM)) : Nat → Int → zM → Option (Int × zM) := zlp (FX5_read_L89_B a1 a2 a3 a4 k) (fun _ _ => none)
def FX5_read (a1 : Int) (a2 : Int) (a3 : Int) (a4 : Int) (m : zM) : Option (Int × zM) :=
zcl (FX5_isSheet a1) fun r1 =>
if zI r1 = zI 0 then (
some ((-1), m)) else (
zcl (FX5_isLane a2) fun r2 =>
if zI r2 = zI 0 then (
some ((-1), m)) else (
zcl (FX5_within a4 0 48) fun r3 =>
if zI r3 = zI 0 then (
some ((-1), m)) else (
zix a1 4 <|
zcl (FX4_refusal (36 + 2 * (a1).toNat) a2 a3 a4 m) fun r5 =>
if zI r5 = zI 0 then (
zcl (FX4_holdsBytes (36 + 2 * (a1).toNat) a3 a4 m) fun r6 =>
if zI r6 = zI 0 then (
some ((-2), m)) else (
if zI 48 < zI ((m 33 1) + a4) then (
some ((-3), m)) else (
FX5_read_L89 a1 a2 a3 a4 (fun y89_7 m89_ =>
some ((m89_ 33 1), m89_)) zfu 0 m))) else (
some (r5, m)))))
def FX5_sheet (a1 : Int) (a2 : Int) (a3 : Int) (m : zM) : Option (Int × zM) :=
zcl (FX5_isSheet a1) fun r1 =>
if zI r1 = zI 0 then (
some ((-1), m)) else (
zcl (FX5_isLane a2) fun r2 =>
if zI r2 = zI 0 then (
some ((-1), m)) else (
if zI 48 < zI a3 then (
some ((-1), m)) else (
if zI a3 < zI 0 then (
some ((-14), m)) else (
zix a1 4 <|
zcl (FX4_begin (36 + 2 * (a1).toNat) a2 a3 m) fun m4 =>
some (a3, m4)))))
def FX5_spell_L72_B (a1 : Int) (a2 : Int) (a3 : Int) (a4 : Int) (k5 : Int) (k7 : Int) (k : Int → zM → Option (Int × zM)) (rec : Int → zM → Option (Int × zM)) (v8 : Int) (m_ : zM) : Option (Int × zM) :=
if zI v8 < zI k5 then (
zix a2 4 <|
zrd m_ 2 (k7 + v8) 48 fun x9 =>
zgd (-2147483648 ≤ x9 ∧ x9 < 2147483648) <|
zcl2 (FX4_store (36 + 2 * (a2).toNat) (a4 + v8) x9 m_) fun r11 m11 =>
rec (v8 + 1) m11) else (
k v8 m_)
def FX5_spell_L72 (a1 : Int) (a2 : Int) (a3 : Int) (a4 : Int) (k5 : Int) (k7 : Int) (k : Int → zM → Option (Int × zM)) : Nat → Int → zM → Option (Int × zM) := zlp (FX5_spell_L72_B a1 a2 a3 a4 k5 k7 k) (fun _ _ => none)
def FX5_spell (a1 : Int) (a2 : Int) (a3 : Int) (a4 : Int) (m : zM) : Option (Int × zM) :=
zcl (FX5_isNode a1 m) fun r1 =>
if zI r1 = zI 0 then (
some ((-1), m)) else (
zcl (FX5_isSheet a2) fun r2 =>
if zI r2 = zI 0 then (
some ((-1), m)) else (
zcl (FX5_isLane a3) fun r3 =>
if zI r3 = zI 0 then (
some ((-1), m)) else (
zrd m 4 a1 50 fun x4 =>
zix a2 4 <|
zcl (FX4_refusal (36 + 2 * (a2).toNat) a3 a4 x4 m) fun r6 =>
if zI r6 = zI 0 then (
zcl (FX1_firstPlace 1 a1 m) fun r7 =>
FX5_spell_L72 a1 a2 a3 a4 x4 r7 (fun y72_8 m72_ =>
some (x4, m72_)) zfu 0 m) else (
some (r6, m)))))
def FX5_times  (m : zM) : Option (Int) :=
if zI (m 33 1) = zI 0 then (
some 0) else (
zcl (FX1_places 1 34 48 0 (m 33 1) m) fun r1 =>
some r1)
def FX5_turned_L27_B (a1 : Int)  (m : zM) (k : Int → Int → Int → Option (Int)) (rec : Int → Int → Int → Option (Int)) (v2 : Int) (v3 : Int) (v4 : Int) : Option (Int) :=
if zI v4 < zI 0 then (
k v2 v3 v4) else (
zcl (FX1_isMirrorTurned 1 v4 m) fun r2 =>
if zI r2 = zI 0 then (
rec v2 v3 (v4 + -1)) else (
rec (v2 + 1) v4 (v4 + -1)))
def FX5_turned_L27 (a1 : Int)  (m : zM) (k : Int → Int → Int → Option (Int)) : Nat → Int → Int → Int → Option (Int) := zlp (FX5_turned_L27_B a1 m k) (fun _ _ _ => none)
def FX5_turned (a1 : Int) (m : zM) : Option (Int) :=
zcl (FX5_within a1 0 1) fun r1 =>
if zI r1 = zI 0 then (
some (-1)) else (
FX5_turned_L27 a1 m (fun y27_2 y27_3 y27_4 =>
if zI a1 = zI 0 then (
some y27_2) else (
some y27_3)) zfu 0 (-4) ((m 1 9) - 1))
def FX5_undo  (m : zM) : Option (Int × zM) :=
if zI (m 21 3) = zI 0 then (
some ((-4), m)) else (
zcl (FX0_takeBackLatest 1 m) fun m1 =>
some ((m1 21 3), m1))
def FX5_walks_L60_B (a1 : Int) (a2 : Int) (a3 : Int) (k : Int → Int → zM → Option (Int × zM)) (rec : Int → Int → zM → Option (Int × zM)) (v4 : Int) (v6 : Int) (m_ : zM) : Option (Int × zM) :=
if zI v6 < zI a1 then (
zgd (0 ≤ (16807 * v4) ∧ (16807 * v4) < 9223372036854775808 ∧ 0 < 2147483647 ∧ 2147483647 < 9223372036854775808) <|
zgd (0 ≤ ((16807 * v4) % 2147483647) ∧ ((16807 * v4) % 2147483647) < 9223372036854775808 ∧ 0 < 64 ∧ 64 < 9223372036854775808) <|
zgd (0 ≤ (((16807 * v4) % 2147483647) / 64) ∧ (((16807 * v4) % 2147483647) / 64) < 9223372036854775808 ∧ 0 < 4 ∧ 4 < 9223372036854775808) <|
zjn (fun (s0 : Int) =>
zjn (zcl (FX1_removeLast 11 m_) fun m9 =>
rec ((16807 * v4) % 2147483647) (v6 + 1) m9) fun j127 =>
if zI s0 = zI 0 then (
if zI (m_ 11 9) = zI 48 then (
j127) else (
zgd (0 ≤ ((16807 * v4) % 2147483647) ∧ ((16807 * v4) % 2147483647) < 9223372036854775808 ∧ 0 < 6 ∧ 6 < 9223372036854775808) <|
zcl2 (FX1_add 11 (97 + (((16807 * v4) % 2147483647) % 6)) m_) fun r11 m11 =>
rec ((16807 * v4) % 2147483647) (v6 + 1) m11)) else (
j127)) fun j108 =>
if zJ ((((16807 * v4) % 2147483647) / 64) % 4) = zJ 0 then (
if zI 0 < zI (m_ 11 9) then (
j108 1) else (
j108 0)) else (
j108 0)) else (
k v4 v6 m_)
def FX5_walks_L60 (a1 : Int) (a2 : Int) (a3 : Int) (k : Int → Int → zM → Option (Int × zM)) : Nat → Int → Int → zM → Option (Int × zM) := zlp (FX5_walks_L60_B a1 a2 a3 k) (fun _ _ _ => none)
def FX5_walks (a1 : Int) (a2 : Int) (a3 : Int) (m : zM) : Option (Int × zM) :=
zcl (FX5_within a1 0 60) fun r1 =>
if zI r1 = zI 0 then (
some ((-1), m)) else (
zcl (FX5_within a2 1 999999) fun r2 =>
if zI r2 = zI 0 then (
some ((-1), m)) else (
zcl (FX5_within a3 0 1) fun r3 =>
if zI r3 = zI 0 then (
some ((-1), m)) else (
zcl (FX1_load 11 2 48 0 (m 1 9) m) fun m4 =>
zgd (-2147483648 ≤ a2 ∧ a2 < 2147483648) <|
FX5_walks_L60 a1 a2 a3 (fun y60_4 y60_6 m60_ =>
if zI a3 = zI 0 then (
some ((m60_ 11 10), m60_)) else (
some ((m60_ 11 9), m60_))) zfu a2 0 m4)))
def FX6_within (a0 : Int) (a2 : Int) (a4 : Int)  : Option (Int) :=
if zJ a0 < zJ a2 then (
some 0) else (
if zJ a4 < zJ a0 then (
some 0) else (
some 1))
def FX6_bring_L3_B (c0 n0 : Nat) (a1 : Int) (c2 n2 : Nat) (a3 : Int) (a4 : Int) (k : Int → zM → Option (zM)) (rec : Int → zM → Option (zM)) (v5 : Int) (m_ : zM) : Option (zM) :=
if zI v5 < zI a4 then (
zrd m_ c0 (a1 + v5) n0 fun x1 =>
zwr m_ c2 (a3 + v5) x1 n2 fun m2 =>
rec (v5 + 1) m2) else (
k v5 m_)
def FX6_bring_L3 (c0 n0 : Nat) (a1 : Int) (c2 n2 : Nat) (a3 : Int) (a4 : Int) (k : Int → zM → Option (zM)) : Nat → Int → zM → Option (zM) := zlp (FX6_bring_L3_B c0 n0 a1 c2 n2 a3 a4 k) (fun _ _ => none)
def FX6_bring (c0 n0 : Nat) (a1 : Int) (c2 n2 : Nat) (a3 : Int) (a4 : Int) (m : zM) : Option (zM) :=
FX6_bring_L3 c0 n0 a1 c2 n2 a3 a4 (fun y3_5 m3_ =>
some m3_) zfu 0 m
def FX6_back (a1 : Int) (m : zM) : Option (Int × zM) :=
zgd (-2147483648 ≤ a1 ∧ a1 < 2147483648) <|
zcl (FX6_within a1 0 1) fun r2 =>
if zI r2 = zI 0 then (
some ((-1), m)) else (
zrd m 4 a1 2 fun x3 =>
if zI x3 < zI 0 then (
some ((-2), m)) else (
zrd m 4 a1 2 fun x4 =>
zcl (FX6_bring 3 96 (48 * a1) 1 48 0 x4 m) fun m5 =>
zrd m5 4 a1 2 fun x6 =>
zpf m5 0 0 x6 fun m7 =>
zpf m7 0 2 0 fun m8 =>
some ((m8 0 0), m8)))
def FX6_isLetter (a0 : Int)  : Option (Int) :=
zgd (-2147483648 ≤ a0 ∧ a0 < 2147483648) <|
zcl (FX6_within a0 97 102) fun r2 =>
zgd (r2 = 0 ∨ r2 = 1) <|
some r2
def FX6_note (a1 : Int) (m : zM) : Option (zM) :=
zjn (fun (m_ : zM) =>
zwr m_ 2 (m_ 0 2) a1 24 fun m1 =>
zpf m1 0 2 ((m1 0 2) + 1) fun m2 =>
some m2) fun j34 =>
if zI (m 0 2) = zI 24 then (
zcl (FX6_bring 2 24 1 2 24 0 23 m) fun m3 =>
zpf m3 0 2 ((m3 0 2) - 1) fun m4 =>
j34 m4) else (
j34 m)
def FX6_change (a1 : Int) (a2 : Int) (m : zM) : Option (Int × zM) :=
zgd (-2147483648 ≤ a1 ∧ a1 < 2147483648) <|
zgd (-2147483648 ≤ ((m 0 0) - 1) ∧ ((m 0 0) - 1) < 2147483648) <|
zcl (FX6_within a1 0 ((m 0 0) - 1)) fun r3 =>
if zI r3 = zI 0 then (
some ((-1), m)) else (
zcl (FX6_isLetter a2) fun r4 =>
if zI r4 = zI 0 then (
some ((-1), m)) else (
zrd m 1 a1 48 fun x5 =>
if zI x5 = zI (a2 - 97) then (
some ((-2), m)) else (
zcl (FX6_note ((100 + (10 * a1)) + x5) m) fun m6 =>
zwr m6 1 a1 (a2 - 97) 48 fun m7 =>
some ((97 + x5), m7))))
def FX6_clear  (m : zM) : Option (Int × zM) :=
zpf m 0 6 0 fun m1 =>
some ((m 0 6), m1)
def FX6_isMirror_L5_B (a1 : Int) (a2 : Int)  (m : zM) (k : Int → Int → Option (Int)) (rec : Int → Int → Option (Int)) (v3 : Int) (v4 : Int) : Option (Int) :=
zgd (0 ≤ a2 ∧ a2 < 2147483648 ∧ 0 < 2 ∧ 2 < 2147483648) <|
if zI v4 < zI (a2 / 2) then (
if zI v3 = zI 0 then (
k v3 v4) else (
zrd m 1 (a1 + v4) 48 fun x2 =>
zrd m 1 (((a1 + a2) - 1) - v4) 48 fun x3 =>
if zI x2 = zI x3 then (
rec 1 (v4 + 1)) else (
rec 0 (v4 + 1)))) else (
k v3 v4)
def FX6_isMirror_L5 (a1 : Int) (a2 : Int)  (m : zM) (k : Int → Int → Option (Int)) : Nat → Int → Int → Option (Int) := zlp (FX6_isMirror_L5_B a1 a2 m k) (fun _ _ => none)
def FX6_isMirror (a1 : Int) (a2 : Int) (m : zM) : Option (Int) :=
FX6_isMirror_L5 a1 a2 m (fun y5_3 y5_4 =>
zgd (y5_3 = 0 ∨ y5_3 = 1) <|
some y5_3) zfu 1 0
def FX6_endsBelow_L19_B (a1 : Int) (a2 : Int)  (m : zM) (k : Int → Option (Int)) (rec : Int → Option (Int)) (v3 : Int) : Option (Int) :=
if zI 0 < zI v3 then (
zcl (FX6_isMirror ((a1 + 1) - v3) v3 m) fun r1 =>
if zI r1 = zI 0 then (
rec (v3 + -1)) else (
k v3)) else (
k v3)
def FX6_endsBelow_L19 (a1 : Int) (a2 : Int)  (m : zM) (k : Int → Option (Int)) : Nat → Int → Option (Int) := zlp (FX6_endsBelow_L19_B a1 a2 m k) (fun _ => none)
def FX6_endsBelow (a1 : Int) (a2 : Int) (m : zM) : Option (Int) :=
zjn (fun (s0 : Int) =>
FX6_endsBelow_L19 a1 a2 m (fun y19_3 =>
some y19_3) zfu s0) fun j18 =>
if zI (a2 - 1) < zI (a1 + 1) then (
j18 (a2 - 1)) else (
j18 (a1 + 1))
def FX6_isSame_L6_B (a1 : Int) (a2 : Int) (a3 : Int)  (m : zM) (k : Int → Int → Option (Int)) (rec : Int → Int → Option (Int)) (v4 : Int) (v5 : Int) : Option (Int) :=
if zI v5 < zI a3 then (
if zI v4 = zI 0 then (
k v4 v5) else (
zrd m 1 (a1 + v5) 48 fun x1 =>
zrd m 1 (a2 + v5) 48 fun x2 =>
if zI x1 = zI x2 then (
rec 1 (v5 + 1)) else (
rec 0 (v5 + 1)))) else (
k v4 v5)
def FX6_isSame_L6 (a1 : Int) (a2 : Int) (a3 : Int)  (m : zM) (k : Int → Int → Option (Int)) : Nat → Int → Int → Option (Int) := zlp (FX6_isSame_L6_B a1 a2 a3 m k) (fun _ _ => none)
def FX6_isSame (a1 : Int) (a2 : Int) (a3 : Int) (m : zM) : Option (Int) :=
FX6_isSame_L6 a1 a2 a3 m (fun y6_4 y6_5 =>
zgd (y6_4 = 0 ∨ y6_4 = 1) <|
some y6_4) zfu 1 0
def FX6_isNew_L20_B (a1 : Int) (k2 : Int) (k3 : Int) (m : zM) (k : Int → Int → Option (Int)) (rec : Int → Int → Option (Int)) (v4 : Int) (v5 : Int) : Option (Int) :=
if zI v5 < zI k3 then (
if zI v4 = zI 0 then (
k v4 v5) else (
zcl (FX6_isSame v5 k3 k2 m) fun r2 =>
if zI r2 = zI 0 then (
rec 1 (v5 + 1)) else (
rec 0 (v5 + 1)))) else (
k v4 v5)
def FX6_isNew_L20 (a1 : Int) (k2 : Int) (k3 : Int) (m : zM) (k : Int → Int → Option (Int)) : Nat → Int → Int → Option (Int) := zlp (FX6_isNew_L20_B a1 k2 k3 m k) (fun _ _ => none)
def FX6_isNew (a1 : Int) (m : zM) : Option (Int) :=
zcl (FX6_endsBelow a1 49 m) fun r1 =>
FX6_isNew_L20 a1 r1 ((a1 + 1) - r1) m (fun y20_4 y20_5 =>
zgd (y20_4 = 0 ∨ y20_4 = 1) <|
some y20_4) zfu 1 0
def FX6_lay_L7_B  (k : Int → zM → Option (zM)) (rec : Int → zM → Option (zM)) (v1 : Int) (m_ : zM) : Option (zM) :=
if zI v1 < zI (m_ 0 0) then (
zcl (FX6_isNew v1 m_) fun r2 =>
if zI r2 = zI 0 then (
rec (v1 + 1) m_) else (
zcl (FX6_endsBelow v1 49 m_) fun r3 =>
zwr m_ 11 (m_ 0 12) r3 48 fun m4 =>
zrd m4 11 (m4 0 12) 48 fun x5 =>
zwr m4 10 (m4 0 12) ((v1 + 1) - x5) 48 fun m6 =>
zpf m6 0 12 ((m6 0 12) + 1) fun m7 =>
rec (v1 + 1) m7)) else (
k v1 m_)
def FX6_lay_L7  (k : Int → zM → Option (zM)) : Nat → Int → zM → Option (zM) := zlp (FX6_lay_L7_B  k) (fun _ _ => none)
def FX6_lay  (m : zM) : Option (zM) :=
zpf m 0 12 0 fun m1 =>
FX6_lay_L7  (fun y7_1 m7_ =>
some m7_) zfu 0 m1
def FX6_isImaged_L30_B (a1 : Int) (a2 : Int) (a3 : Int) (k5 : Int) (m : zM) (k : Int → Int → Option (Int)) (rec : Int → Int → Option (Int)) (v6 : Int) (v7 : Int) : Option (Int) :=
if zI v7 < zI a3 then (
if zI v6 = zI 0 then (
k v6 v7) else (
zrd m 3 (((48 * a1) + k5) + v7) 96 fun x2 =>
zrd m 1 (a2 + v7) 48 fun x3 =>
if zI x2 = zI x3 then (
rec 1 (v7 + 1)) else (
rec 0 (v7 + 1)))) else (
k v6 v7)
def FX6_isImaged_L30 (a1 : Int) (a2 : Int) (a3 : Int) (k5 : Int) (m : zM) (k : Int → Int → Option (Int)) : Nat → Int → Int → Option (Int) := zlp (FX6_isImaged_L30_B a1 a2 a3 k5 m k) (fun _ _ => none)
def FX6_isImaged_L6_B (a1 : Int) (a2 : Int) (a3 : Int)  (m : zM) (k : Int → Int → Option (Int)) (rec : Int → Int → Option (Int)) (v4 : Int) (v5 : Int) : Option (Int) :=
zrd m 4 a1 2 fun x1 =>
if zI x1 < zI (v5 + a3) then (
k v4 v5) else (
if zI v4 = zI 0 then (
FX6_isImaged_L30 a1 a2 a3 v5 m (fun y30_6 y30_7 =>
rec y30_6 (v5 + 1)) zfu 1 0) else (
k v4 v5))
def FX6_isImaged_L6 (a1 : Int) (a2 : Int) (a3 : Int)  (m : zM) (k : Int → Int → Option (Int)) : Nat → Int → Int → Option (Int) := zlp (FX6_isImaged_L6_B a1 a2 a3 m k) (fun _ _ => none)
def FX6_isImaged (a1 : Int) (a2 : Int) (a3 : Int) (m : zM) : Option (Int) :=
FX6_isImaged_L6 a1 a2 a3 m (fun y6_4 y6_5 =>
zgd (y6_4 = 0 ∨ y6_4 = 1) <|
some y6_4) zfu 0 0
def FX6_common_L46_B (a1 : Int) (a2 : Int)  (mc : zM) (k : Int → Int → Int → Option (Int × zM)) (rec : Int → Int → Int → Option (Int × zM)) (v3 : Int) (v4 : Int) (v5 : Int) : Option (Int × zM) :=
if zI v5 < zI (mc 0 12) then (
zrd mc 10 v5 48 fun x7 =>
zrd mc 11 v5 48 fun x8 =>
zcl (FX6_isImaged a1 x7 x8 mc) fun r9 =>
zjn (fun (s0 : Int) =>
if zI r9 = zI 0 then (
rec (v3 + s0) v4 (v5 + 1)) else (
zrd mc 11 v5 48 fun x10 =>
if zI v4 < zI x10 then (
zrd mc 11 v5 48 fun x11 =>
rec (v3 + s0) x11 (v5 + 1)) else (
rec (v3 + s0) v4 (v5 + 1)))) fun j87 =>
if zI r9 = zI 0 then (
j87 0) else (
j87 1)) else (
k v3 v4 v5)
def FX6_common_L46 (a1 : Int) (a2 : Int)  (mc : zM) (k : Int → Int → Int → Option (Int × zM)) : Nat → Int → Int → Int → Option (Int × zM) := zlp (FX6_common_L46_B a1 a2 mc k) (fun _ _ _ => none)
def FX6_common (a1 : Int) (a2 : Int) (m : zM) : Option (Int × zM) :=
zgd (-2147483648 ≤ a1 ∧ a1 < 2147483648) <|
zcl (FX6_within a1 0 1) fun r2 =>
if zI r2 = zI 0 then (
some ((-1), m)) else (
zgd (-2147483648 ≤ a2 ∧ a2 < 2147483648) <|
zcl (FX6_within a2 0 1) fun r4 =>
if zI r4 = zI 0 then (
some ((-1), m)) else (
zrd m 4 a1 2 fun x5 =>
if zI x5 < zI 0 then (
some ((-2), m)) else (
zcl (FX6_lay m) fun m6 =>
FX6_common_L46 a1 a2 m6 (fun y46_3 y46_4 y46_5 =>
if zI a2 = zI 0 then (
some (y46_3, m6)) else (
some (y46_4, m6))) zfu 0 0 0)))
def FX6_isSheet (a0 : Int)  : Option (Int) :=
zgd (-2147483648 ≤ a0 ∧ a0 < 2147483648) <|
zcl (FX6_within a0 0 3) fun r2 =>
zgd (r2 = 0 ∨ r2 = 1) <|
some r2
def FX6_whyNot (a1 : Int) (a2 : Int) (a3 : Int) (a4 : Int) (m : zM) : Option (Int) :=
zrd m 6 a1 4 fun x1 =>
if zI x1 < zI 0 then (
some (-11)) else (
zrd m 6 a1 4 fun x2 =>
if zI x2 = zI a2 then (
if zI a3 < zI 0 then (
some (-13)) else (
if zI a4 < zI 0 then (
some (-13)) else (
zgd (-2147483648 ≤ a3 ∧ a3 < 2147483648) <|
zgd (-2147483648 ≤ a4 ∧ a4 < 2147483648) <|
zrd m 7 a1 4 fun x5 =>
zgd (-2147483648 ≤ x5 ∧ x5 < 2147483648) <|
if zJ x5 < zJ (a3 + a4) then (
some (-13)) else (
some 0)))) else (
some (-12)))
def FX6_copy_L96_B (a1 : Int) (a2 : Int) (a3 : Int) (a4 : Int) (a5 : Int) (k : Int → zM → Option (Int × zM)) (rec : Int → zM → Option (Int × zM)) (v6 : Int) (m_ : zM) : Option (Int × zM) :=
if zI v6 < zI a5 then (
zrd m_ 8 (((48 * a1) + a2) + v6) 192 fun x11 =>
zwr m_ 9 v6 x11 48 fun m12 =>
rec (v6 + 1) m12) else (
k v6 m_)
def FX6_copy_L96 (a1 : Int) (a2 : Int) (a3 : Int) (a4 : Int) (a5 : Int) (k : Int → zM → Option (Int × zM)) : Nat → Int → zM → Option (Int × zM) := zlp (FX6_copy_L96_B a1 a2 a3 a4 a5 k) (fun _ _ => none)
def FX6_copy_L133_B (a1 : Int) (a2 : Int) (a3 : Int) (a4 : Int) (a5 : Int) (k : Int → zM → Option (Int × zM)) (rec : Int → zM → Option (Int × zM)) (v6 : Int) (m_ : zM) : Option (Int × zM) :=
if zI v6 < zI a5 then (
zrd m_ 9 v6 48 fun x14 =>
zwr m_ 8 (((48 * a3) + a4) + v6) x14 192 fun m15 =>
rec (v6 + 1) m15) else (
k v6 m_)
def FX6_copy_L133 (a1 : Int) (a2 : Int) (a3 : Int) (a4 : Int) (a5 : Int) (k : Int → zM → Option (Int × zM)) : Nat → Int → zM → Option (Int × zM) := zlp (FX6_copy_L133_B a1 a2 a3 a4 a5 k) (fun _ _ => none)
def FX6_copy (a1 : Int) (a2 : Int) (a3 : Int) (a4 : Int) (a5 : Int) (m : zM) : Option (Int × zM) :=
zcl (FX6_isSheet a1) fun r1 =>
if zI r1 = zI 0 then (
some ((-1), m)) else (
zcl (FX6_isSheet a3) fun r2 =>
if zI r2 = zI 0 then (
some ((-1), m)) else (
zrd m 6 a1 4 fun x3 =>
if zI x3 < zI 0 then (
some ((-11), m)) else (
zrd m 6 a3 4 fun x4 =>
if zI x4 < zI 0 then (
some ((-11), m)) else (
zrd m 6 a1 4 fun x5 =>
zrd m 6 a3 4 fun x6 =>
if zI x5 = zI x6 then (
zrd m 6 a1 4 fun x7 =>
zcl (FX6_whyNot a1 x7 a2 a5 m) fun r8 =>
if zI r8 = zI 0 then (
zrd m 6 a3 4 fun x9 =>
zcl (FX6_whyNot a3 x9 a4 a5 m) fun r10 =>
if zI r10 = zI 0 then (
FX6_copy_L96 a1 a2 a3 a4 a5 (fun y96_6 m96_ =>
FX6_copy_L133 a1 a2 a3 a4 a5 (fun y133_6 m133_ =>
some (a5, m133_)) zfu 0 m96_) zfu 0 m) else (
some ((-13), m))) else (
some ((-13), m))) else (
some ((-12), m))))))
def FX6_stands_L9_B (a1 : Int) (a2 : Int) (a3 : Int)  (m : zM) (k : Int → Int → Int → Option (Int)) (rec : Int → Int → Int → Option (Int)) (v4 : Int) (v5 : Int) (v6 : Int) : Option (Int) :=
if zI (m 0 0) < zI (v6 + a2) then (
k v4 v5 v6) else (
zcl (FX6_isSame v6 a1 a2 m) fun r1 =>
zjn (fun (s0 : Int) =>
if zI r1 = zI 0 then (
rec (v4 + s0) v5 (v6 + 1)) else (
rec (v4 + s0) v6 (v6 + 1))) fun j42 =>
if zI r1 = zI 0 then (
j42 0) else (
j42 1))
def FX6_stands_L9 (a1 : Int) (a2 : Int) (a3 : Int)  (m : zM) (k : Int → Int → Int → Option (Int)) : Nat → Int → Int → Int → Option (Int) := zlp (FX6_stands_L9_B a1 a2 a3 m k) (fun _ _ _ => none)
def FX6_stands (a1 : Int) (a2 : Int) (a3 : Int) (m : zM) : Option (Int) :=
FX6_stands_L9 a1 a2 a3 m (fun y9_4 y9_5 y9_6 =>
if zI a3 = zI 3 then (
some y9_4) else (
some y9_5)) zfu 0 a1 0
def FX6_ofAll_L7_B (a1 : Int)  (m : zM) (k : Int → Int → Int → Option (Int)) (rec : Int → Int → Int → Option (Int)) (v2 : Int) (v3 : Int) (v4 : Int) : Option (Int) :=
if zI v4 < zI (m 0 12) then (
zjn (fun (s0 : Int) =>
zrd m 11 v4 48 fun x1 =>
if zI v3 < zI x1 then (
zrd m 11 v4 48 fun x2 =>
rec (v2 + s0) x2 (v4 + 1)) else (
rec (v2 + s0) v3 (v4 + 1))) fun j55 =>
if zI a1 = zI 2 then (
zrd m 10 v4 48 fun x6 =>
zrd m 11 v4 48 fun x7 =>
zcl (FX6_stands x6 x7 3 m) fun r8 =>
j55 r8) else (
zrd m 11 v4 48 fun x4 =>
zgd (0 ≤ x4 ∧ x4 < 2147483648 ∧ 0 < 2 ∧ 2 < 2147483648) <|
j55 (1 - (x4 % 2)))) else (
k v2 v3 v4)
def FX6_ofAll_L7 (a1 : Int)  (m : zM) (k : Int → Int → Int → Option (Int)) : Nat → Int → Int → Int → Option (Int) := zlp (FX6_ofAll_L7_B a1 m k) (fun _ _ _ => none)
def FX6_ofAll (a1 : Int) (m : zM) : Option (Int) :=
FX6_ofAll_L7 a1 m (fun y7_2 y7_3 y7_4 =>
if zI a1 = zI 4 then (
some y7_3) else (
some y7_2)) zfu 0 0 0
def FX6_count (a1 : Int) (m : zM) : Option (Int × zM) :=
zcl (FX6_lay m) fun m1 =>
if zI a1 = zI 0 then (
some ((m1 0 0), m1)) else (
if zI a1 = zI 1 then (
some ((m1 0 12), m1)) else (
if zI a1 = zI 2 then (
zcl (FX6_ofAll a1 m1) fun r3 =>
some (r3, m1)) else (
if zI a1 = zI 3 then (
zcl (FX6_ofAll a1 m1) fun r4 =>
some (r4, m1)) else (
if zI a1 = zI 4 then (
zcl (FX6_ofAll a1 m1) fun r5 =>
some (r5, m1)) else (
if zI a1 = zI 5 then (
if zI (m1 0 12) = zI (m1 0 0) then (
some (1, m1)) else (
some (0, m1))) else (
if zI a1 = zI 6 then (
some ((m1 0 2), m1)) else (
if zI a1 = zI 7 then (
some ((m1 0 6), m1)) else (
some ((-1), m1)))))))))
def FX6_cut (a0 : Int) (a1 : Int)  : Option (Int) :=
if zI a0 = zI 0 then (
some (zand a1 65535)) else (
if zI a0 = zI 1 then (
zgd (-2147483648 ≤ (zsh a1) ∧ (zsh a1) < 2147483648) <|
some (zsh a1)) else (
if zI a0 = zI 2 then (
zgd (-2147483648 ≤ a1 ∧ a1 < 2147483648) <|
some a1) else (
some a1)))
def FX6_layCuts_L26_B (a1 : Int) (a2 : Int) (k3 : Int) (k : Int → zM → Option (zM)) (rec : Int → zM → Option (zM)) (v4 : Int) (m_ : zM) : Option (zM) :=
if zI a1 < zI (k3 + v4) then (
k v4 m_) else (
zcl (FX6_isMirror k3 v4 m_) fun r3 =>
if zI r3 = zI 0 then (
rec (v4 + a2) m_) else (
zrd m_ 12 (k3 + v4) 49 fun x4 =>
zrd m_ 12 k3 49 fun x5 =>
if zI (x4 + 1) < zI x5 then (
zrd m_ 12 (k3 + v4) 49 fun x6 =>
zwr m_ 12 k3 (x6 + 1) 49 fun m7 =>
rec (v4 + a2) m7) else (
rec (v4 + a2) m_)))
def FX6_layCuts_L26 (a1 : Int) (a2 : Int) (k3 : Int) (k : Int → zM → Option (zM)) : Nat → Int → zM → Option (zM) := zlp (FX6_layCuts_L26_B a1 a2 k3 k) (fun _ _ => none)
def FX6_layCuts_L11_B (a1 : Int) (a2 : Int) (k : Int → zM → Option (zM)) (rec : Int → zM → Option (zM)) (v3 : Int) (m_ : zM) : Option (zM) :=
if zI v3 < zI 0 then (
k v3 m_) else (
zwr m_ 12 v3 99 49 fun m2 =>
FX6_layCuts_L26 a1 a2 v3 (fun y26_4 m26_ =>
rec (v3 + -1) m26_) zfu a2 m2)
def FX6_layCuts_L11 (a1 : Int) (a2 : Int) (k : Int → zM → Option (zM)) : Nat → Int → zM → Option (zM) := zlp (FX6_layCuts_L11_B a1 a2 k) (fun _ _ => none)
def FX6_layCuts (a1 : Int) (a2 : Int) (m : zM) : Option (zM) :=
zwr m 12 a1 0 49 fun m1 =>
FX6_layCuts_L11 a1 a2 (fun y11_3 m11_ =>
some m11_) zfu (a1 - 1) m1
def FX6_cuts_L81_B (a1 : Int) (a2 : Int) (k3 : Int) (k5 : Int) (mc : zM) (k : Int → Option (Int × zM)) (rec : Int → Option (Int × zM)) (v4 : Int) : Option (Int × zM) :=
zcl (FX6_isMirror k3 v4 mc) fun r8 =>
if zI r8 = zI 0 then (
rec (v4 + 1)) else (
zrd mc 12 (k3 + v4) 49 fun x9 =>
zrd mc 12 k3 49 fun x10 =>
if zI x9 = zI (x10 - 1) then (
k v4) else (
rec (v4 + 1)))
def FX6_cuts_L81 (a1 : Int) (a2 : Int) (k3 : Int) (k5 : Int) (mc : zM) (k : Int → Option (Int × zM)) : Nat → Int → Option (Int × zM) := zlp (FX6_cuts_L81_B a1 a2 k3 k5 mc k) (fun _ => none)
def FX6_cuts_L67_B (a1 : Int) (a2 : Int)  (mc : zM) (k : Int → Int → Int → Option (Int × zM)) (rec : Int → Int → Int → Option (Int × zM)) (v3 : Int) (v4 : Int) (v5 : Int) : Option (Int × zM) :=
if zI a2 < zI v5 then (
k v3 v4 v5) else (
FX6_cuts_L81 a1 a2 (v3 + v4) v5 mc (fun y81_4 =>
rec (v3 + v4) y81_4 (v5 + 1)) zfu 1)
def FX6_cuts_L67 (a1 : Int) (a2 : Int)  (mc : zM) (k : Int → Int → Int → Option (Int × zM)) : Nat → Int → Int → Int → Option (Int × zM) := zlp (FX6_cuts_L67_B a1 a2 mc k) (fun _ _ _ => none)
def FX6_cuts (a1 : Int) (a2 : Int) (m : zM) : Option (Int × zM) :=
zgd (-2147483648 ≤ a1 ∧ a1 < 2147483648) <|
zgd (-2147483648 ≤ (m 0 0) ∧ (m 0 0) < 2147483648) <|
zcl (FX6_within a1 0 (m 0 0)) fun r3 =>
if zI r3 = zI 0 then (
some ((-1), m)) else (
if zI a2 < zI (-1) then (
some ((-1), m)) else (
zcl (FX6_layCuts a1 1 m) fun m4 =>
zjn (if zI a2 = zI (-1) then (
zrd m4 12 0 49 fun x5 =>
some (x5, m4)) else (
some ((-4), m4))) fun j42 =>
if zI a2 = zI (-1) then (
j42) else (
zrd m4 12 0 49 fun x7 =>
if zI a2 < zI x7 then (
FX6_cuts_L67 a1 a2 m4 (fun y67_3 y67_4 y67_5 =>
some (y67_4, m4)) zfu 0 0 0) else (
j42))))
def FX6_drop (a1 : Int) (m : zM) : Option (Int × zM) :=
zcl (FX6_isSheet a1) fun r1 =>
if zI r1 = zI 0 then (
some ((-1), m)) else (
zrd m 6 a1 4 fun x2 =>
if zI x2 < zI 0 then (
some ((-11), m)) else (
zwr m 6 a1 (-1) 4 fun m3 =>
zrd m3 7 a1 4 fun x4 =>
some (x4, m3)))
def FX6_ends_L34_B (a1 : Int) (a2 : Int)  (m : zM) (k : Int → Int → Option (Int)) (rec : Int → Int → Option (Int)) (v3 : Int) (v4 : Int) : Option (Int) :=
if zI 0 < zI v4 then (
if zI v3 = zI a2 then (
some v4) else (
zcl (FX6_endsBelow a1 v4 m) fun r5 =>
rec (v3 + 1) r5)) else (
k v3 v4)
def FX6_ends_L34 (a1 : Int) (a2 : Int)  (m : zM) (k : Int → Int → Option (Int)) : Nat → Int → Int → Option (Int) := zlp (FX6_ends_L34_B a1 a2 m k) (fun _ _ => none)
def FX6_ends (a1 : Int) (a2 : Int) (m : zM) : Option (Int) :=
zgd (-2147483648 ≤ a1 ∧ a1 < 2147483648) <|
zgd (-2147483648 ≤ ((m 0 0) - 1) ∧ ((m 0 0) - 1) < 2147483648) <|
zcl (FX6_within a1 0 ((m 0 0) - 1)) fun r3 =>
if zI r3 = zI 0 then (
some (-1)) else (
if zI a2 < zI (-1) then (
some (-1)) else (
zcl (FX6_endsBelow a1 49 m) fun r4 =>
FX6_ends_L34 a1 a2 m (fun y34_3 y34_4 =>
if zI a2 = zI (-1) then (
some y34_3) else (
some (-4))) zfu 0 r4))
def FX6_evens (a1 : Int) (m : zM) : Option (Int × zM) :=
zgd (-2147483648 ≤ a1 ∧ a1 < 2147483648) <|
zgd (-2147483648 ≤ (m 0 0) ∧ (m 0 0) < 2147483648) <|
zcl (FX6_within a1 0 (m 0 0)) fun r3 =>
if zI r3 = zI 0 then (
some ((-1), m)) else (
zcl (FX6_layCuts a1 2 m) fun m4 =>
zrd m4 12 0 49 fun x5 =>
if zI x5 < zI 99 then (
zrd m4 12 0 49 fun x6 =>
some (x6, m4)) else (
some ((-4), m4)))
def FX6_feed (a1 : Int) (m : zM) : Option (Int × zM) :=
zgd (-2147483648 ≤ a1 ∧ a1 < 2147483648) <|
zcl (FX6_within a1 0 255) fun r2 =>
if zI r2 = zI 0 then (
some ((-1), m)) else (
if zI (m 0 6) = zI 48 then (
some ((-3), m)) else (
zwr m 5 (m 0 6) a1 48 fun m3 =>
zpf m3 0 6 ((m3 0 6) + 1) fun m4 =>
some ((m4 0 6), m4)))
def FX6_fill_L2_B  (k : Int → zM → Option (Int × zM)) (rec : Int → zM → Option (Int × zM)) (v1 : Int) (m_ : zM) : Option (Int × zM) :=
if zI v1 < zI 48 then (
zwr m_ 12 v1 0 49 fun m1 =>
zwr m1 14 v1 0 48 fun m2 =>
rec (v1 + 1) m2) else (
k v1 m_)
def FX6_fill_L2  (k : Int → zM → Option (Int × zM)) : Nat → Int → zM → Option (Int × zM) := zlp (FX6_fill_L2_B  k) (fun _ _ => none)
def FX6_fill_L42_B (k2 : Int) (k : Int → zM → Option (Int × zM)) (rec : Int → zM → Option (Int × zM)) (v3 : Int) (m_ : zM) : Option (Int × zM) :=
if zI (m_ 0 0) < zI (v3 + k2) then (
k v3 m_) else (
zrd m_ 1 v3 48 fun x4 =>
zrd m_ 1 ((v3 + k2) - 1) 48 fun x5 =>
zjn (fun (s0 : Int) =>
zrd m_ 12 v3 49 fun x6 =>
zrd m_ 12 (v3 + 1) 49 fun x7 =>
zjn (fun (s0 : Int) =>
zjn (fun (s0 : Int) =>
zrd m_ 12 v3 49 fun x8 =>
zwr m_ 14 v3 x8 48 fun m9 =>
zwr m9 12 v3 s0 49 fun m10 =>
rec (v3 + 1) m10) fun j136 =>
if zI s0 = zI 0 then (
j136 s0) else (
zrd m_ 14 (v3 + 1) 48 fun x11 =>
j136 x11)) fun j116 =>
if zI x6 < zI x7 then (
zrd m_ 12 v3 49 fun x14 =>
j116 (x14 + 1)) else (
zrd m_ 12 (v3 + 1) 49 fun x13 =>
j116 (x13 + 1))) fun j76 =>
if zI x4 = zI x5 then (
j76 1) else (
j76 0))
def FX6_fill_L42 (k2 : Int) (k : Int → zM → Option (Int × zM)) : Nat → Int → zM → Option (Int × zM) := zlp (FX6_fill_L42_B k2 k) (fun _ _ => none)
def FX6_fill_L32_B  (k : Int → zM → Option (Int × zM)) (rec : Int → zM → Option (Int × zM)) (v2 : Int) (m_ : zM) : Option (Int × zM) :=
if zI (m_ 0 0) < zI v2 then (
k v2 m_) else (
FX6_fill_L42 v2 (fun y42_3 m42_ =>
rec (v2 + 1) m42_) zfu 0 m_)
def FX6_fill_L32  (k : Int → zM → Option (Int × zM)) : Nat → Int → zM → Option (Int × zM) := zlp (FX6_fill_L32_B  k) (fun _ _ => none)
def FX6_fill  (m : zM) : Option (Int × zM) :=
FX6_fill_L2  (fun y2_1 m2_ =>
FX6_fill_L32  (fun y32_2 m32_ =>
if zI (m32_ 0 0) = zI 0 then (
some (0, m32_)) else (
zrd m32_ 12 0 49 fun x19 =>
some (x19, m32_))) zfu 2 m2_) zfu 0 m
def FX6_isTaped_L28_B (a1 : Int)  (m : zM) (k : Int → Int → Option (Int)) (rec : Int → Int → Option (Int)) (v2 : Int) (v3 : Int) : Option (Int) :=
if zI v3 < zI (m 0 6) then (
if zI v2 = zI 0 then (
k v2 v3) else (
zrd m 5 v3 48 fun x1 =>
zrd m 1 (a1 + v3) 48 fun x2 =>
if zI x1 = zI (97 + x2) then (
rec 1 (v3 + 1)) else (
rec 0 (v3 + 1)))) else (
k v2 v3)
def FX6_isTaped_L28 (a1 : Int)  (m : zM) (k : Int → Int → Option (Int)) : Nat → Int → Int → Option (Int) := zlp (FX6_isTaped_L28_B a1 m k) (fun _ _ => none)
def FX6_isTaped (a1 : Int) (m : zM) : Option (Int) :=
zjn (fun (s0 : Int) =>
FX6_isTaped_L28 a1 m (fun y28_2 y28_3 =>
zgd (y28_2 = 0 ∨ y28_2 = 1) <|
some y28_2) zfu s0 0) fun j25 =>
if zI 0 < zI (m 0 6) then (
if zI (m 0 0) < zI (a1 + (m 0 6)) then (
j25 0) else (
j25 1)) else (
j25 0)
def FX6_find_L9_B (mc : zM) (k : Int → Int → Option (Int × zM)) (rec : Int → Int → Option (Int × zM)) (v1 : Int) (v2 : Int) : Option (Int × zM) :=
if zI v2 < zI (mc 0 12) then (
zrd mc 11 v2 48 fun x2 =>
if zI x2 = zI (mc 0 6) then (
zrd mc 10 v2 48 fun x3 =>
zcl (FX6_isTaped x3 mc) fun r4 =>
if zI r4 = zI 0 then (
rec v1 (v2 + 1)) else (
rec v2 (v2 + 1))) else (
rec v1 (v2 + 1))) else (
k v1 v2)
def FX6_find_L9 (mc : zM) (k : Int → Int → Option (Int × zM)) : Nat → Int → Int → Option (Int × zM) := zlp (FX6_find_L9_B mc k) (fun _ _ => none)
def FX6_find  (m : zM) : Option (Int × zM) :=
zcl (FX6_lay m) fun m1 =>
FX6_find_L9 m1 (fun y9_1 y9_2 =>
some (y9_1, m1)) zfu (-4) 0
def FX6_nodeOf_L2_B (a1 : Int) (a2 : Int)  (m : zM) (k : Int → Option (Int)) (rec : Int → Option (Int)) (v3 : Int) : Option (Int) :=
zrd m 11 v3 48 fun x1 =>
if zI x1 = zI a2 then (
zrd m 10 v3 48 fun x2 =>
zcl (FX6_isSame x2 a1 a2 m) fun r3 =>
if zI r3 = zI 0 then (
rec (v3 + 1)) else (
k v3)) else (
rec (v3 + 1))
def FX6_nodeOf_L2 (a1 : Int) (a2 : Int)  (m : zM) (k : Int → Option (Int)) : Nat → Int → Option (Int) := zlp (FX6_nodeOf_L2_B a1 a2 m k) (fun _ => none)
def FX6_nodeOf (a1 : Int) (a2 : Int) (m : zM) : Option (Int) :=
FX6_nodeOf_L2 a1 a2 m (fun y2_3 =>
some y2_3) zfu 0
def FX6_link (a1 : Int) (m : zM) : Option (Int) :=
zrd m 10 a1 48 fun x1 =>
zrd m 11 a1 48 fun x2 =>
zrd m 11 a1 48 fun x3 =>
zcl (FX6_endsBelow ((x1 + x2) - 1) x3 m) fun r4 =>
if zI r4 = zI 0 then (
some (-4)) else (
zcl (FX6_nodeOf ((((x1 + x2) - 1) + 1) - r4) r4 m) fun r5 =>
some r5)
def FX6_less (a1 : Int) (m : zM) : Option (Int) :=
zcl (FX6_link a1 m) fun r1 =>
if zI r1 = zI (-4) then (
zrd m 11 a1 48 fun x4 =>
some x4) else (
zrd m 11 a1 48 fun x2 =>
zrd m 11 r1 48 fun x3 =>
some (x2 - x3))
def FX6_series_L12_B (a1 : Int) (k2 : Int) (m : zM) (k : Int → Option (Int)) (rec : Int → Option (Int)) (v3 : Int) : Option (Int) :=
if zI v3 = zI (-4) then (
k v3) else (
zcl (FX6_less v3 m) fun r3 =>
if zI r3 = zI k2 then (
zcl (FX6_link v3 m) fun r4 =>
rec r4) else (
k v3))
def FX6_series_L12 (a1 : Int) (k2 : Int) (m : zM) (k : Int → Option (Int)) : Nat → Int → Option (Int) := zlp (FX6_series_L12_B a1 k2 m k) (fun _ => none)
def FX6_series (a1 : Int) (m : zM) : Option (Int) :=
zcl (FX6_less a1 m) fun r1 =>
zcl (FX6_link a1 m) fun r2 =>
FX6_series_L12 a1 r1 m (fun y12_3 =>
some y12_3) zfu r2
def FX6_groups_L44_B (a1 : Int)  (mc : zM) (k : Int → Int → Option (Int × zM)) (rec : Int → Int → Option (Int × zM)) (v3 : Int) (v4 : Int) : Option (Int × zM) :=
if zI v3 = zI (-4) then (
k v3 v4) else (
zcl (FX6_series v3 mc) fun r7 =>
rec r7 (v4 + 1))
def FX6_groups_L44 (a1 : Int)  (mc : zM) (k : Int → Int → Option (Int × zM)) : Nat → Int → Int → Option (Int × zM) := zlp (FX6_groups_L44_B a1 mc k) (fun _ _ => none)
def FX6_groups (a1 : Int) (m : zM) : Option (Int × zM) :=
zgd (-2147483648 ≤ a1 ∧ a1 < 2147483648) <|
zgd (-2147483648 ≤ ((m 0 0) - 1) ∧ ((m 0 0) - 1) < 2147483648) <|
zcl (FX6_within a1 0 ((m 0 0) - 1)) fun r3 =>
if zI r3 = zI 0 then (
some ((-1), m)) else (
zcl (FX6_lay m) fun m4 =>
zcl (FX6_endsBelow a1 49 m4) fun r5 =>
zcl (FX6_nodeOf ((a1 + 1) - r5) r5 m4) fun r6 =>
FX6_groups_L44 a1 m4 (fun y44_3 y44_4 =>
some (y44_4, m4)) zfu r6 0)
def FX6_power_L4_B (a0 : Int) (k : Int → Int → Option (Int)) (rec : Int → Int → Option (Int)) (v1 : Int) (v2 : Int) : Option (Int) :=
if zI v2 < zI a0 then (
rec (v1 * 6) (v2 + 1)) else (
k v1 v2)
def FX6_power_L4 (a0 : Int) (k : Int → Int → Option (Int)) : Nat → Int → Int → Option (Int) := zlp (FX6_power_L4_B a0 k) (fun _ _ => none)
def FX6_power (a0 : Int)  : Option (Int) :=
FX6_power_L4 a0 (fun y4_1 y4_2 =>
some y4_1) zfu 1 0
def FX6_push (a1 : Int) (m : zM) : Option (zM) :=
zwr m 1 (m 0 0) a1 48 fun m1 =>
zpf m1 0 0 ((m1 0 0) + 1) fun m2 =>
some m2
def FX6_more_L11_B (a1 : Int) (a2 : Int) (k3 : Int) (k : Int → Int → zM → Option (Int × zM)) (rec : Int → Int → zM → Option (Int × zM)) (v4 : Int) (v5 : Int) (m_ : zM) : Option (Int × zM) :=
if zI v5 < zI a1 then (
zcl (FX6_power ((a1 - 1) - v5)) fun r1 =>
zgd (0 ≤ a2 ∧ a2 < 2147483648 ∧ 0 < r1 ∧ r1 < 2147483648) <|
zgd (0 ≤ (a2 / r1) ∧ (a2 / r1) < 2147483648 ∧ 0 < 6 ∧ 6 < 2147483648) <|
zcl (FX6_push ((a2 / r1) % 6) m_) fun m4 =>
zcl (FX6_isNew ((m4 0 0) - 1) m4) fun r5 =>
if zI r5 = zI 0 then (
rec (v4 + 0) (v5 + 1) m4) else (
rec (v4 + 1) (v5 + 1) m4)) else (
k v4 v5 m_)
def FX6_more_L11 (a1 : Int) (a2 : Int) (k3 : Int) (k : Int → Int → zM → Option (Int × zM)) : Nat → Int → Int → zM → Option (Int × zM) := zlp (FX6_more_L11_B a1 a2 k3 k) (fun _ _ _ => none)
def FX6_more (a1 : Int) (a2 : Int) (m : zM) : Option (Int × zM) :=
FX6_more_L11 a1 a2 (m 0 0) (fun y11_4 y11_5 m11_ =>
zpf m11_ 0 0 (m 0 0) fun m8 =>
some (y11_4, m8)) zfu 0 0 m
def FX6_grow_L41_B (a1 : Int) (a2 : Int) (k : Int → Int → Int → zM → Option (Int × zM)) (rec : Int → Int → Int → zM → Option (Int × zM)) (v3 : Int) (v4 : Int) (v5 : Int) (m_ : zM) : Option (Int × zM) :=
zcl (FX6_power a1) fun r3 =>
if zI v5 < zI r3 then (
zcl2 (FX6_more a1 v5 m_) fun r4 m4 =>
zjn (fun (s0 : Int) =>
if zI v3 < zI r4 then (
rec r4 s0 (v5 + 1) m4) else (
rec v3 s0 (v5 + 1) m4)) fun j72 =>
if zI v3 < zI r4 then (
j72 v5) else (
j72 v4)) else (
k v3 v4 v5 m_)
def FX6_grow_L41 (a1 : Int) (a2 : Int) (k : Int → Int → Int → zM → Option (Int × zM)) : Nat → Int → Int → Int → zM → Option (Int × zM) := zlp (FX6_grow_L41_B a1 a2 k) (fun _ _ _ _ => none)
def FX6_grow (a1 : Int) (a2 : Int) (m : zM) : Option (Int × zM) :=
zgd (-2147483648 ≤ a1 ∧ a1 < 2147483648) <|
zcl (FX6_within a1 0 3) fun r2 =>
if zI r2 = zI 0 then (
some ((-1), m)) else (
if zI a2 < zI (-1) then (
some ((-1), m)) else (
if zI 48 < zI ((m 0 0) + a1) then (
some ((-3), m)) else (
FX6_grow_L41 a1 a2 (fun y41_3 y41_4 y41_5 m41_ =>
zcl (FX6_lay m41_) fun m8 =>
if zI a2 = zI (-1) then (
some (((m8 0 12) + y41_3), m8)) else (
if zI a2 < zI a1 then (
zcl (FX6_power ((a1 - 1) - a2)) fun r9 =>
zgd (0 ≤ y41_4 ∧ y41_4 < 2147483648 ∧ 0 < r9 ∧ r9 < 2147483648) <|
zgd (0 ≤ (y41_4 / r9) ∧ (y41_4 / r9) < 2147483648 ∧ 0 < 6 ∧ 6 < 2147483648) <|
some ((97 + ((y41_4 / r9) % 6)), m8)) else (
some ((-4), m8)))) zfu (-1) 0 0 m)))
def FX6_unlike_L36_B (a1 : Int) (a2 : Int) (k3 : Int) (k4 : Int) (k5 : Int) (m : zM) (k : Int → Int → Option (Int)) (rec : Int → Int → Option (Int)) (v6 : Int) (v7 : Int) : Option (Int) :=
if zI v7 < zI k4 then (
if zI v6 = zI 0 then (
k v6 v7) else (
zcl (FX6_isSame v7 k4 k5 m) fun r2 =>
if zI r2 = zI 0 then (
rec 1 (v7 + 1)) else (
rec 0 (v7 + 1)))) else (
k v6 v7)
def FX6_unlike_L36 (a1 : Int) (a2 : Int) (k3 : Int) (k4 : Int) (k5 : Int) (m : zM) (k : Int → Int → Option (Int)) : Nat → Int → Int → Option (Int) := zlp (FX6_unlike_L36_B a1 a2 k3 k4 k5 m k) (fun _ _ => none)
def FX6_unlike_L14_B (a1 : Int) (a2 : Int) (k4 : Int) (m : zM) (k : Int → Int → Option (Int)) (rec : Int → Int → Option (Int)) (v3 : Int) (v5 : Int) : Option (Int) :=
if zI a2 < zI (k4 + v5) then (
k v3 v5) else (
zcl (FX6_isMirror k4 v5 m) fun r1 =>
FX6_unlike_L36 a1 a2 v3 k4 v5 m (fun y36_6 y36_7 =>
if zI y36_6 = zI 0 then (
rec (v3 + 0) (v5 + 1)) else (
rec (v3 + 1) (v5 + 1))) zfu r1 a1)
def FX6_unlike_L14 (a1 : Int) (a2 : Int) (k4 : Int) (m : zM) (k : Int → Int → Option (Int)) : Nat → Int → Int → Option (Int) := zlp (FX6_unlike_L14_B a1 a2 k4 m k) (fun _ _ => none)
def FX6_unlike_L5_B (a1 : Int) (a2 : Int)  (m : zM) (k : Int → Int → Option (Int)) (rec : Int → Int → Option (Int)) (v3 : Int) (v4 : Int) : Option (Int) :=
if zI v4 < zI a2 then (
FX6_unlike_L14 a1 a2 v4 m (fun y14_3 y14_5 =>
rec y14_3 (v4 + 1)) zfu v3 1) else (
k v3 v4)
def FX6_unlike_L5 (a1 : Int) (a2 : Int)  (m : zM) (k : Int → Int → Option (Int)) : Nat → Int → Int → Option (Int) := zlp (FX6_unlike_L5_B a1 a2 m k) (fun _ _ => none)
def FX6_unlike (a1 : Int) (a2 : Int) (m : zM) : Option (Int) :=
FX6_unlike_L5 a1 a2 m (fun y5_3 y5_4 =>
some y5_3) zfu 0 a1
def FX6_in_L56_B (a1 : Int) (a2 : Int) (a3 : Int) (k4 : Int) (m : zM) (k : Int → Option (Int)) (rec : Int → Option (Int)) (v5 : Int) : Option (Int) :=
if zI a2 < zI (v5 + k4) then (
k v5) else (
zcl (FX6_isMirror v5 k4 m) fun r3 =>
if zI r3 = zI 0 then (
rec (v5 + 1)) else (
if zI a3 = zI 0 then (
some k4) else (
some v5)))
def FX6_in_L56 (a1 : Int) (a2 : Int) (a3 : Int) (k4 : Int) (m : zM) (k : Int → Option (Int)) : Nat → Int → Option (Int) := zlp (FX6_in_L56_B a1 a2 a3 k4 m k) (fun _ => none)
def FX6_in_L48_B (a1 : Int) (a2 : Int) (a3 : Int)  (m : zM) (k : Int → Option (Int)) (rec : Int → Option (Int)) (v4 : Int) : Option (Int) :=
if zI 0 < zI v4 then (
FX6_in_L56 a1 a2 a3 v4 m (fun y56_5 =>
rec (v4 + -1)) zfu a1) else (
k v4)
def FX6_in_L48 (a1 : Int) (a2 : Int) (a3 : Int)  (m : zM) (k : Int → Option (Int)) : Nat → Int → Option (Int) := zlp (FX6_in_L48_B a1 a2 a3 m k) (fun _ => none)
def FX6_in (a1 : Int) (a2 : Int) (a3 : Int) (m : zM) : Option (Int) :=
if zI a1 < zI 0 then (
some (-1)) else (
if zI a2 < zI a1 then (
some (-1)) else (
if zI (m 0 0) < zI a2 then (
some (-1)) else (
zgd (-2147483648 ≤ a3 ∧ a3 < 2147483648) <|
zcl (FX6_within a3 0 2) fun r2 =>
if zI r2 = zI 0 then (
some (-1)) else (
if zI a3 = zI 2 then (
zcl (FX6_unlike a1 a2 m) fun r9 =>
some r9) else (
FX6_in_L48 a1 a2 a3 m (fun y48_4 =>
if zI a3 = zI 0 then (
some 0) else (
some (-4))) zfu (a2 - a1))))))
def FX6_isTurned_L4_B (a1 : Int)  (m : zM) (k : Int → Int → Option (Int)) (rec : Int → Int → Option (Int)) (v2 : Int) (v3 : Int) : Option (Int) :=
zgd (0 ≤ (m 0 0) ∧ (m 0 0) < 2147483648 ∧ 0 < 2 ∧ 2 < 2147483648) <|
if zI v3 < zI ((m 0 0) / 2) then (
if zI v2 = zI 0 then (
k v2 v3) else (
zgd (0 ≤ (a1 + v3) ∧ (a1 + v3) < 2147483648 ∧ 0 < (m 0 0) ∧ (m 0 0) < 2147483648) <|
zrd m 1 ((a1 + v3) % (m 0 0)) 48 fun x3 =>
zgd (0 ≤ (((a1 + (m 0 0)) - 1) - v3) ∧ (((a1 + (m 0 0)) - 1) - v3) < 2147483648 ∧ 0 < (m 0 0) ∧ (m 0 0) < 2147483648) <|
zrd m 1 ((((a1 + (m 0 0)) - 1) - v3) % (m 0 0)) 48 fun x5 =>
if zI x3 = zI x5 then (
rec 1 (v3 + 1)) else (
rec 0 (v3 + 1)))) else (
k v2 v3)
def FX6_isTurned_L4 (a1 : Int)  (m : zM) (k : Int → Int → Option (Int)) : Nat → Int → Int → Option (Int) := zlp (FX6_isTurned_L4_B a1 m k) (fun _ _ => none)
def FX6_isTurned (a1 : Int) (m : zM) : Option (Int) :=
FX6_isTurned_L4 a1 m (fun y4_2 y4_3 =>
zgd (y4_2 = 0 ∨ y4_2 = 1) <|
some y4_2) zfu 1 0
def FX6_item (a1 : Int) (a2 : Int) (a3 : Int) (a4 : Int) (m : zM) : Option (Int × zM) :=
zcl (FX6_isSheet a1) fun r1 =>
if zI r1 = zI 0 then (
some ((-1), m)) else (
zgd (-2147483648 ≤ a2 ∧ a2 < 2147483648) <|
zcl (FX6_within a2 0 3) fun r3 =>
if zI r3 = zI 0 then (
some ((-1), m)) else (
zcl (FX6_whyNot a1 a2 a3 1 m) fun r4 =>
if zI r4 = zI 0 then (
zcl (FX6_cut a2 a4) fun r5 =>
zwr m 8 ((48 * a1) + a3) r5 192 fun m6 =>
zrd m6 8 ((48 * a1) + a3) 192 fun x7 =>
some (x7, m6)) else (
zgd (-2147483648 ≤ r4 ∧ r4 < 2147483648) <|
some (r4, m))))
def FX6_keep (a1 : Int) (m : zM) : Option (Int × zM) :=
zgd (-2147483648 ≤ a1 ∧ a1 < 2147483648) <|
zcl (FX6_within a1 0 1) fun r2 =>
if zI r2 = zI 0 then (
some ((-1), m)) else (
zcl (FX6_bring 1 48 0 3 96 (48 * a1) (m 0 0) m) fun m3 =>
zwr m3 4 a1 (m3 0 0) 2 fun m4 =>
some ((m4 0 0), m4))
def FX6_letter (a1 : Int) (m : zM) : Option (Int) :=
zgd (-2147483648 ≤ a1 ∧ a1 < 2147483648) <|
zgd (-2147483648 ≤ ((m 0 0) - 1) ∧ ((m 0 0) - 1) < 2147483648) <|
zcl (FX6_within a1 0 ((m 0 0) - 1)) fun r3 =>
if zI r3 = zI 0 then (
some (-1)) else (
zrd m 1 a1 48 fun x4 =>
some (97 + x4))
def FX6_mend_L16_B (a1 : Int)  (m : zM) (k : Int → Int → Option (Int × zM)) (rec : Int → Int → Option (Int × zM)) (v2 : Int) (v3 : Int) : Option (Int × zM) :=
zgd (0 ≤ (m 0 0) ∧ (m 0 0) < 2147483648 ∧ 0 < 2 ∧ 2 < 2147483648) <|
if zI v3 < zI ((m 0 0) / 2) then (
zrd m 1 v3 48 fun x4 =>
zrd m 1 (((m 0 0) - 1) - v3) 48 fun x5 =>
if zI x4 = zI x5 then (
rec (v2 + 0) (v3 + 1)) else (
rec (v2 + 1) (v3 + 1))) else (
k v2 v3)
def FX6_mend_L16 (a1 : Int)  (m : zM) (k : Int → Int → Option (Int × zM)) : Nat → Int → Int → Option (Int × zM) := zlp (FX6_mend_L16_B a1 m k) (fun _ _ => none)
def FX6_mend (a1 : Int) (m : zM) : Option (Int × zM) :=
zgd (-2147483648 ≤ a1 ∧ a1 < 2147483648) <|
zcl (FX6_within a1 0 1) fun r2 =>
if zI r2 = zI 0 then (
some ((-1), m)) else (
FX6_mend_L16 a1 m (fun y16_2 y16_3 =>
if zI a1 = zI 0 then (
some (y16_2, m)) else (
zcl2 (FX6_fill m) fun r8 m8 =>
some (r8, m8))) zfu 0 0)
def FX6_next (a1 : Int) (a2 : Int) (m : zM) : Option (Int × zM) :=
zcl (FX6_isLetter a1) fun r1 =>
if zI r1 = zI 0 then (
some ((-1), m)) else (
zgd (-2147483648 ≤ a2 ∧ a2 < 2147483648) <|
zcl (FX6_within a2 0 1) fun r3 =>
if zI r3 = zI 0 then (
some ((-1), m)) else (
if zI (m 0 0) = zI 48 then (
some ((-3), m)) else (
zcl (FX6_push (a1 - 97) m) fun m4 =>
zjn (fun (s0 : Int) =>
zpf m4 0 0 ((m4 0 0) - 1) fun m5 =>
some (s0, m5)) fun j76 =>
if zI a2 = zI 0 then (
zcl (FX6_endsBelow ((m4 0 0) - 1) 49 m4) fun r8 =>
j76 r8) else (
zcl (FX6_isNew ((m4 0 0) - 1) m4) fun r6 =>
if zI r6 = zI 0 then (
j76 0) else (
j76 1)))))
def FX6_node (a1 : Int) (a2 : Int) (m : zM) : Option (Int × zM) :=
zcl (FX6_lay m) fun m1 =>
zgd (-2147483648 ≤ a1 ∧ a1 < 2147483648) <|
zgd (-2147483648 ≤ ((m1 0 12) - 1) ∧ ((m1 0 12) - 1) < 2147483648) <|
zcl (FX6_within a1 0 ((m1 0 12) - 1)) fun r4 =>
if zI r4 = zI 0 then (
some ((-1), m1)) else (
zgd (-2147483648 ≤ a2 ∧ a2 < 2147483648) <|
zcl (FX6_within a2 0 7) fun r6 =>
if zI r6 = zI 0 then (
some ((-1), m1)) else (
zrd m1 10 a1 48 fun x7 =>
zrd m1 11 a1 48 fun x8 =>
if zI a2 = zI 0 then (
some (x8, m1)) else (
if zI a2 = zI 1 then (
some (x7, m1)) else (
if zI a2 = zI 2 then (
zcl (FX6_stands x7 x8 a2 m1) fun r10 =>
some (r10, m1)) else (
if zI a2 = zI 3 then (
zcl (FX6_stands x7 x8 a2 m1) fun r11 =>
some (r11, m1)) else (
if zI a2 = zI 4 then (
zcl (FX6_link a1 m1) fun r12 =>
some (r12, m1)) else (
if zI a2 = zI 5 then (
zcl (FX6_less a1 m1) fun r13 =>
some (r13, m1)) else (
if zI a2 = zI 6 then (
zcl (FX6_series a1 m1) fun r14 =>
some (r14, m1)) else (
if zI x8 < zI 3 then (
some ((-4), m1)) else (
zcl (FX6_nodeOf (x7 + 1) (x8 - 2) m1) fun r15 =>
some (r15, m1)))))))))))
def FX6_odds_L62_B (a1 : Int) (a2 : Int) (a3 : Int) (k5 : Int) (k : Int → Int → zM → Option (Int × zM)) (rec : Int → Int → zM → Option (Int × zM)) (v4 : Int) (v6 : Int) (m_ : zM) : Option (Int × zM) :=
if zI v6 < zI k5 then (
zcl2 (FX6_more a1 v6 m_) fun r8 m8 =>
if zI r8 < zI a2 then (
rec (v4 + 0) (v6 + 1) m8) else (
rec (v4 + 1) (v6 + 1) m8)) else (
k v4 v6 m_)
def FX6_odds_L62 (a1 : Int) (a2 : Int) (a3 : Int) (k5 : Int) (k : Int → Int → zM → Option (Int × zM)) : Nat → Int → Int → zM → Option (Int × zM) := zlp (FX6_odds_L62_B a1 a2 a3 k5 k) (fun _ _ _ => none)
def FX6_odds_L104_B (a1 : Int) (a2 : Int) (a3 : Int) (k4 : Int) (k5 : Int) (mc : zM) (k : Int → Int → Option (Int × zM)) (rec : Int → Int → Option (Int × zM)) (v6 : Int) (v7 : Int) : Option (Int × zM) :=
if zI 0 < zI v7 then (
zgd (0 ≤ v6 ∧ v6 < 2147483648 ∧ 0 < v7 ∧ v7 < 2147483648) <|
rec v7 (v6 % v7)) else (
k v6 v7)
def FX6_odds_L104 (a1 : Int) (a2 : Int) (a3 : Int) (k4 : Int) (k5 : Int) (mc : zM) (k : Int → Int → Option (Int × zM)) : Nat → Int → Int → Option (Int × zM) := zlp (FX6_odds_L104_B a1 a2 a3 k4 k5 mc k) (fun _ _ => none)
def FX6_odds (a1 : Int) (a2 : Int) (a3 : Int) (m : zM) : Option (Int × zM) :=
zgd (-2147483648 ≤ a1 ∧ a1 < 2147483648) <|
zcl (FX6_within a1 0 4) fun r2 =>
if zI r2 = zI 0 then (
some ((-1), m)) else (
zgd (-2147483648 ≤ a2 ∧ a2 < 2147483648) <|
zcl (FX6_within a2 0 9) fun r4 =>
if zI r4 = zI 0 then (
some ((-1), m)) else (
zgd (-2147483648 ≤ a3 ∧ a3 < 2147483648) <|
zcl (FX6_within a3 0 1) fun r6 =>
if zI r6 = zI 0 then (
some ((-1), m)) else (
if zI 48 < zI ((m 0 0) + a1) then (
some ((-3), m)) else (
zcl (FX6_power a1) fun r7 =>
FX6_odds_L62 a1 a2 a3 r7 (fun y62_4 y62_6 m62_ =>
FX6_odds_L104 a1 a2 a3 y62_4 r7 m62_ (fun y104_6 y104_7 =>
if zI a3 = zI 0 then (
zgd (0 ≤ y62_4 ∧ y62_4 < 2147483648 ∧ 0 < y104_6 ∧ y104_6 < 2147483648) <|
some ((y62_4 / y104_6), m62_)) else (
zgd (0 ≤ r7 ∧ r7 < 2147483648 ∧ 0 < y104_6 ∧ y104_6 < 2147483648) <|
some ((r7 / y104_6), m62_))) zfu y62_4 r7) zfu 0 0 m))))
def FX6_pop  (m : zM) : Option (Int × zM) :=
if zI (m 0 0) = zI 0 then (
some ((-2), m)) else (
zpf m 0 0 ((m 0 0) - 1) fun m1 =>
zrd m1 1 (m1 0 0) 48 fun x2 =>
zcl (FX6_note (1 + x2) m1) fun m3 =>
zrd m3 1 (m3 0 0) 48 fun x4 =>
some ((97 + x4), m3))
def FX6_put (a1 : Int) (m : zM) : Option (Int × zM) :=
zcl (FX6_isLetter a1) fun r1 =>
if zI r1 = zI 0 then (
some ((-1), m)) else (
if zI (m 0 0) = zI 48 then (
some ((-3), m)) else (
zcl (FX6_note 0 m) fun m2 =>
zcl (FX6_push (a1 - 97) m2) fun m3 =>
zcl (FX6_endsBelow ((m3 0 0) - 1) 49 m3) fun r4 =>
some (r4, m3)))
def FX6_read_L56_B (a1 : Int) (a2 : Int) (a3 : Int) (a4 : Int)  (m : zM) (k : Int → Option (Int × zM)) (rec : Int → Option (Int × zM)) (v6 : Int) : Option (Int × zM) :=
if zI v6 < zI a4 then (
zrd m 8 (((48 * a1) + a3) + v6) 192 fun x7 =>
zcl (FX6_within x7 0 255) fun r8 =>
if zI r8 = zI 0 then (
some ((-2), m)) else (
rec (v6 + 1))) else (
k v6)
def FX6_read_L56 (a1 : Int) (a2 : Int) (a3 : Int) (a4 : Int)  (m : zM) (k : Int → Option (Int × zM)) : Nat → Int → Option (Int × zM) := zlp (FX6_read_L56_B a1 a2 a3 a4 m k) (fun _ => none)
def FX6_read_L114_B (a1 : Int) (a2 : Int) (a3 : Int) (a4 : Int) (k : Int → zM → Option (Int × zM)) (rec : Int → zM → Option (Int × zM)) (v6 : Int) (m_ : zM) : Option (Int × zM) :=
if zI v6 < zI a4 then (
zrd m_ 8 (((48 * a1) + a3) + v6) 192 fun x11 =>
zwr m_ 5 (m_ 0 6) x11 48 fun m12 =>
zpf m12 0 6 ((m12 0 6) + 1) fun m13 =>
rec (v6 + 1) m13) else (
k v6 m_)
def FX6_read_L114 (a1 : Int) (a2 : Int) (a3 : Int) (a4 : Int) (k : Int → zM → Option (Int × zM)) : Nat → Int → zM → Option (Int × zM) := zlp (FX6_read_L114_B a1 a2 a3 a4 k) (fun _ _ => none)
def FX6_read (a1 : Int) (a2 : Int) (a3 : Int) (a4 : Int) (m : zM) : Option (Int × zM) :=
zcl (FX6_isSheet a1) fun r1 =>
if zI r1 = zI 0 then (
some ((-1), m)) else (
zgd (-2147483648 ≤ a2 ∧ a2 < 2147483648) <|
zcl (FX6_within a2 0 3) fun r3 =>
if zI r3 = zI 0 then (
some ((-1), m)) else (
zgd (-2147483648 ≤ a4 ∧ a4 < 2147483648) <|
zcl (FX6_within a4 0 48) fun r5 =>
if zI r5 = zI 0 then (
some ((-1), m)) else (
zcl (FX6_whyNot a1 a2 a3 a4 m) fun r6 =>
if zI r6 = zI 0 then (
FX6_read_L56 a1 a2 a3 a4 m (fun y56_6 =>
if zI 48 < zI ((m 0 6) + a4) then (
some ((-3), m)) else (
FX6_read_L114 a1 a2 a3 a4 (fun y114_6 m114_ =>
some ((m114_ 0 6), m114_)) zfu 0 m)) zfu 0) else (
some (r6, m)))))
def FX6_sheet_L51_B (a1 : Int) (a2 : Int) (a3 : Int) (k : Int → zM → Option (Int × zM)) (rec : Int → zM → Option (Int × zM)) (v4 : Int) (m_ : zM) : Option (Int × zM) :=
if zI v4 < zI 48 then (
zwr m_ 8 ((48 * a1) + v4) 0 192 fun m6 =>
rec (v4 + 1) m6) else (
k v4 m_)
def FX6_sheet_L51 (a1 : Int) (a2 : Int) (a3 : Int) (k : Int → zM → Option (Int × zM)) : Nat → Int → zM → Option (Int × zM) := zlp (FX6_sheet_L51_B a1 a2 a3 k) (fun _ _ => none)
def FX6_sheet (a1 : Int) (a2 : Int) (a3 : Int) (m : zM) : Option (Int × zM) :=
zcl (FX6_isSheet a1) fun r1 =>
if zI r1 = zI 0 then (
some ((-1), m)) else (
zgd (-2147483648 ≤ a2 ∧ a2 < 2147483648) <|
zcl (FX6_within a2 0 3) fun r3 =>
if zI r3 = zI 0 then (
some ((-1), m)) else (
if zI 48 < zI a3 then (
some ((-1), m)) else (
if zI a3 < zI 0 then (
some ((-14), m)) else (
zwr m 6 a1 a2 4 fun m4 =>
zwr m4 7 a1 a3 4 fun m5 =>
FX6_sheet_L51 a1 a2 a3 (fun y51_4 m51_ =>
some (a3, m51_)) zfu 0 m5))))
def FX6_spell_L72_B (a1 : Int) (a2 : Int) (a3 : Int) (a4 : Int) (k5 : Int) (k : Int → zM → Option (Int × zM)) (rec : Int → zM → Option (Int × zM)) (v7 : Int) (m_ : zM) : Option (Int × zM) :=
if zI v7 < zI k5 then (
zrd m_ 10 a1 48 fun x10 =>
zrd m_ 1 (x10 + v7) 48 fun x11 =>
zgd (-2147483648 ≤ (97 + x11) ∧ (97 + x11) < 2147483648) <|
zwr m_ 8 (((48 * a2) + a4) + v7) (97 + x11) 192 fun m13 =>
rec (v7 + 1) m13) else (
k v7 m_)
def FX6_spell_L72 (a1 : Int) (a2 : Int) (a3 : Int) (a4 : Int) (k5 : Int) (k : Int → zM → Option (Int × zM)) : Nat → Int → zM → Option (Int × zM) := zlp (FX6_spell_L72_B a1 a2 a3 a4 k5 k) (fun _ _ => none)
def FX6_spell (a1 : Int) (a2 : Int) (a3 : Int) (a4 : Int) (m : zM) : Option (Int × zM) :=
zcl (FX6_lay m) fun m1 =>
zgd (-2147483648 ≤ a1 ∧ a1 < 2147483648) <|
zgd (-2147483648 ≤ ((m1 0 12) - 1) ∧ ((m1 0 12) - 1) < 2147483648) <|
zcl (FX6_within a1 0 ((m1 0 12) - 1)) fun r4 =>
if zI r4 = zI 0 then (
some ((-1), m1)) else (
zcl (FX6_isSheet a2) fun r5 =>
if zI r5 = zI 0 then (
some ((-1), m1)) else (
zgd (-2147483648 ≤ a3 ∧ a3 < 2147483648) <|
zcl (FX6_within a3 0 3) fun r7 =>
if zI r7 = zI 0 then (
some ((-1), m1)) else (
zrd m1 11 a1 48 fun x8 =>
zcl (FX6_whyNot a2 a3 a4 x8 m1) fun r9 =>
if zI r9 = zI 0 then (
FX6_spell_L72 a1 a2 a3 a4 x8 (fun y72_7 m72_ =>
some (x8, m72_)) zfu 0 m1) else (
some (r9, m1)))))
def FX6_times_L4_B (m : zM) (k : Int → Int → Option (Int)) (rec : Int → Int → Option (Int)) (v1 : Int) (v2 : Int) : Option (Int) :=
if zI v2 < zI (m 0 0) then (
zcl (FX6_isTaped v2 m) fun r1 =>
if zI r1 = zI 0 then (
rec (v1 + 0) (v2 + 1)) else (
rec (v1 + 1) (v2 + 1))) else (
k v1 v2)
def FX6_times_L4 (m : zM) (k : Int → Int → Option (Int)) : Nat → Int → Int → Option (Int) := zlp (FX6_times_L4_B m k) (fun _ _ => none)
def FX6_times  (m : zM) : Option (Int) :=
FX6_times_L4 m (fun y4_1 y4_2 =>
some y4_1) zfu 0 0
def FX6_turned_L25_B (a1 : Int)  (m : zM) (k : Int → Int → Int → Option (Int)) (rec : Int → Int → Int → Option (Int)) (v2 : Int) (v3 : Int) (v4 : Int) : Option (Int) :=
if zI v4 < zI 0 then (
k v2 v3 v4) else (
zcl (FX6_isTurned v4 m) fun r3 =>
zjn (fun (s0 : Int) =>
zcl (FX6_isTurned v4 m) fun r4 =>
if zI r4 = zI 0 then (
rec (v2 + s0) v3 (v4 + -1)) else (
rec (v2 + s0) v4 (v4 + -1))) fun j45 =>
if zI r3 = zI 0 then (
j45 0) else (
j45 1))
def FX6_turned_L25 (a1 : Int)  (m : zM) (k : Int → Int → Int → Option (Int)) : Nat → Int → Int → Int → Option (Int) := zlp (FX6_turned_L25_B a1 m k) (fun _ _ _ => none)
def FX6_turned (a1 : Int) (m : zM) : Option (Int) :=
zgd (-2147483648 ≤ a1 ∧ a1 < 2147483648) <|
zcl (FX6_within a1 0 1) fun r2 =>
if zI r2 = zI 0 then (
some (-1)) else (
FX6_turned_L25 a1 m (fun y25_2 y25_3 y25_4 =>
if zI a1 = zI 0 then (
some y25_2) else (
some y25_3)) zfu 0 (-4) ((m 0 0) - 1))
def FX6_undo  (m : zM) : Option (Int × zM) :=
if zI (m 0 2) = zI 0 then (
some ((-4), m)) else (
zpf m 0 2 ((m 0 2) - 1) fun m1 =>
zrd m1 2 (m1 0 2) 24 fun x2 =>
if zI x2 = zI 0 then (
zpf m1 0 0 ((m1 0 0) - 1) fun m8 =>
some ((m8 0 2), m8)) else (
if zI x2 < zI 100 then (
zcl (FX6_push (x2 - 1) m1) fun m6 =>
some ((m6 0 2), m6)) else (
zgd (0 ≤ (x2 - 100) ∧ (x2 - 100) < 2147483648 ∧ 0 < 10 ∧ 10 < 2147483648) <|
zgd (0 ≤ x2 ∧ x2 < 2147483648 ∧ 0 < 10 ∧ 10 < 2147483648) <|
zwr m1 1 ((x2 - 100) / 10) (x2 % 10) 48 fun m5 =>
some ((m5 0 2), m5))))
def FX6_walks_L64_B (a1 : Int) (a2 : Int) (a3 : Int) (k4 : Int) (k : Int → Int → zM → Option (Int × zM)) (rec : Int → Int → zM → Option (Int × zM)) (v5 : Int) (v7 : Int) (m_ : zM) : Option (Int × zM) :=
if zI v7 < zI a1 then (
zgd (0 ≤ (16807 * v5) ∧ (16807 * v5) < 9223372036854775808 ∧ 0 < 2147483647 ∧ 2147483647 < 9223372036854775808) <|
zgd (0 ≤ ((16807 * v5) % 2147483647) ∧ ((16807 * v5) % 2147483647) < 9223372036854775808 ∧ 0 < 64 ∧ 64 < 9223372036854775808) <|
zgd (0 ≤ (((16807 * v5) % 2147483647) / 64) ∧ (((16807 * v5) % 2147483647) / 64) < 9223372036854775808 ∧ 0 < 4 ∧ 4 < 9223372036854775808) <|
zjn (zpf m_ 0 0 ((m_ 0 0) - 1) fun m12 =>
rec ((16807 * v5) % 2147483647) (v7 + 1) m12) fun j113 =>
zjn (if zI (m_ 0 0) = zI 48 then (
j113) else (
zgd (0 ≤ ((16807 * v5) % 2147483647) ∧ ((16807 * v5) % 2147483647) < 9223372036854775808 ∧ 0 < 6 ∧ 6 < 9223372036854775808) <|
zcl (FX6_push (((16807 * v5) % 2147483647) % 6) m_) fun m14 =>
rec ((16807 * v5) % 2147483647) (v7 + 1) m14)) fun j104 =>
if zJ ((((16807 * v5) % 2147483647) / 64) % 4) = zJ 0 then (
if zI 0 < zI (m_ 0 0) then (
j113) else (
j104)) else (
j104)) else (
k v5 v7 m_)
def FX6_walks_L64 (a1 : Int) (a2 : Int) (a3 : Int) (k4 : Int) (k : Int → Int → zM → Option (Int × zM)) : Nat → Int → Int → zM → Option (Int × zM) := zlp (FX6_walks_L64_B a1 a2 a3 k4 k) (fun _ _ _ => none)
def FX6_walks (a1 : Int) (a2 : Int) (a3 : Int) (m : zM) : Option (Int × zM) :=
zgd (-2147483648 ≤ a1 ∧ a1 < 2147483648) <|
zcl (FX6_within a1 0 60) fun r2 =>
if zI r2 = zI 0 then (
some ((-1), m)) else (
zgd (-2147483648 ≤ a2 ∧ a2 < 2147483648) <|
zcl (FX6_within a2 1 999999) fun r4 =>
if zI r4 = zI 0 then (
some ((-1), m)) else (
zgd (-2147483648 ≤ a3 ∧ a3 < 2147483648) <|
zcl (FX6_within a3 0 1) fun r6 =>
if zI r6 = zI 0 then (
some ((-1), m)) else (
zcl (FX6_bring 1 48 0 14 48 0 (m 0 0) m) fun m7 =>
zgd (-2147483648 ≤ a2 ∧ a2 < 2147483648) <|
FX6_walks_L64 a1 a2 a3 (m 0 0) (fun y64_5 y64_7 m64_ =>
zcl (FX6_lay m64_) fun m19 =>
zjn (fun (s0 : Int) =>
zpf m19 0 0 (m 0 0) fun m20 =>
zcl (FX6_bring 14 48 0 1 48 0 (m 0 0) m20) fun m21 =>
some (s0, m21)) fun j162 =>
if zI a3 = zI 0 then (
j162 (m19 0 12)) else (
j162 (m19 0 0))) zfu a2 0 m7)))
end
section
def rmX1_edge : Room := { frames := 0, cells := 0, slots := 0, locals := 0 }
set_option maxRecDepth 20000 in
set_option maxHeartbeats 4000000 in
theorem wX1_edge {l : Launch} {D : va_G} {ca : Nat → ClassId} {ad : Nat → Nat} (hG : zGok (zGC D ca ad)) {a0 : Int} {a1 : Int} {r0 : Int} {m : zM} (h : FX1_edge a0 a1 = some r0) : zCt l (zGC D ca ad) yX1_edge cX1_edge 2 (some .int) rmX1_edge [.int (zI a0), .int (zI a1)] m (some (.int (zI r0))) m := by
  unfold FX1_edge at h
  refine z_of (by decide +kernel) hG (Nat.le_of_ble_eq_true rfl) (fun X hX => ?_)
  show zV X 2 m 0 [(0, .int (zI a0)), (1, .int (zI a1))] []
  refine z_iload_n (pc := 0) hX 0 dX1_edge_0 rfl rfl ?_
  refine z_bipush (pc := 1) hX dX1_edge_1 (by decide +kernel) ?_
  refine z_imul (pc := 3) hX dX1_edge_3 ?_
  refine z_iload_n (pc := 4) hX 1 dX1_edge_4 rfl rfl ?_
  refine z_iadd (pc := 5) hX dX1_edge_5 ?_
  refine z_bipush (pc := 6) hX dX1_edge_6 (by decide +kernel) ?_
  refine z_isub (pc := 8) hX dX1_edge_8 ?_
  exact z_iret (pc := 9) hX rfl rfl (Option.some.inj h) rfl dX1_edge_9
def rmX1_removeLast : Room := { frames := 1, cells := 0, slots := 0, locals := 21 }
set_option maxRecDepth 20000 in
set_option maxHeartbeats 4000000 in
theorem wX1_removeLast {l : Launch} {D : va_G} {ca : Nat → ClassId} {ad : Nat → Nat} (hG : zGok (zGC D ca ad)) {o : Nat} (ho : zCat o) {m0 : zM} {m : zM} (h : FX1_removeLast o m = some m0) : zCt l (zGC D ca ad) yX1_removeLast cX1_removeLast 2 none rmX1_removeLast [.ref (ad o)] m none m0 := by
  unfold FX1_removeLast at h
  refine z_of (by decide +kernel) hG (Nat.le_of_ble_eq_true rfl) (fun X hX => ?_)
  show zV X 2 m 0 [(0, .ref (ad o))] []
  refine z_aload_n (pc := 0) hX 0 dX1_removeLast_0 rfl rfl ?_
  refine z_dup (pc := 1) hX dX1_removeLast_1 rfl ?_
  refine z_get (pc := 2) (c := o) (j := 9) (v := .int (zI (m o 9))) hX rfl zfl_RX1_45 (zCat_lt ho) (zCat_e ho) rfl dX1_removeLast_2 ?_
  refine z_iconst (pc := 5) hX dX1_removeLast_5 ?_
  refine z_isub (pc := 6) hX dX1_removeLast_6 ?_
  obtain ⟨m1, hm1, h⟩ := zpf_s h
  refine z_put (pc := 7) (c := o) (j := 9) hX rfl zfl_RX1_45 zfi_1_9 (zCat_lt ho) (zCat_e ho) (Nat.le_of_ble_eq_true rfl) (zCat_p9 ho) hm1 dX1_removeLast_7 ?_
  refine z_aload_n (pc := 10) hX 0 dX1_removeLast_10 rfl rfl ?_
  refine z_get (pc := 11) (c := o) (j := 1) (v := .ref (ad (o + 2))) hX rfl zfl_RX1_15 (zCat_lt ho) (zCat_e ho) rfl dX1_removeLast_11 ?_
  refine z_aload_n (pc := 14) hX 0 dX1_removeLast_14 rfl rfl ?_
  refine z_get (pc := 15) (c := o) (j := 9) (v := .int (zI (m1 o 9))) hX rfl zfl_RX1_45 (zCat_lt ho) (zCat_e ho) rfl dX1_removeLast_15 ?_
  obtain ⟨x2, hx2, hi2, h⟩ := zrd_s h
  refine z_iald (pc := 18) (c := (o + 2)) hX (zCat_a2 ho) hi2 hx2 dX1_removeLast_18 ?_
  refine z_istore_n (pc := 19) (lv' := [(1, .int (zI x2)), (0, .ref (ad o))]) hX dX1_removeLast_19 rfl (by decide) rfl ?_
  refine z_aload_n (pc := 20) hX 1 dX1_removeLast_20 rfl rfl ?_
  refine z_get (pc := 21) (c := o) (j := 6) (v := .ref (ad (o + 7))) hX rfl zfl_RX1_30 (zCat_lt ho) (zCat_e ho) rfl dX1_removeLast_21 ?_
  refine z_iload_n (pc := 24) hX 0 dX1_removeLast_24 rfl rfl ?_
  obtain ⟨x3, hx3, hi3, h⟩ := zrd_s h
  refine z_iald (pc := 25) (c := (o + 7)) hX (zCat_a7 ho) hi3 hx3 dX1_removeLast_25 ?_
  refine z_aload_n (pc := 26) hX 1 dX1_removeLast_26 rfl rfl ?_
  refine z_get (pc := 27) (c := o) (j := 9) (v := .int (zI (m1 o 9))) hX rfl zfl_RX1_45 (zCat_lt ho) (zCat_e ho) rfl dX1_removeLast_27 ?_
  refine z_icmp_ne (pc := 30) (tgt := 67) hX dX1_removeLast_30 (by decide) (fun hc9 => ?_) (fun hc9 => ?_)
  · replace h := (if_neg hc9).symm.trans h
    exact z_vret (pc := 67) hX rfl rfl (Option.some.inj h) dX1_removeLast_67
  · replace h := (if_pos hc9).symm.trans h
    refine z_aload_n (pc := 33) hX 1 dX1_removeLast_33 rfl rfl ?_
    refine z_get (pc := 34) (c := o) (j := 8) (v := .ref (ad (o + 9))) hX rfl zfl_RX1_36 (zCat_lt ho) (zCat_e ho) rfl dX1_removeLast_34 ?_
    refine z_aload_n (pc := 37) hX 1 dX1_removeLast_37 rfl rfl ?_
    refine z_get (pc := 38) (c := o) (j := 5) (v := .ref (ad (o + 6))) hX rfl zfl_RX1_27 (zCat_lt ho) (zCat_e ho) rfl dX1_removeLast_38 ?_
    refine z_iload_n (pc := 41) hX 0 dX1_removeLast_41 rfl rfl ?_
    obtain ⟨x4, hx4, hi4, h⟩ := zrd_s h
    refine z_iald (pc := 42) (c := (o + 6)) hX (zCat_a6 ho) hi4 hx4 dX1_removeLast_42 ?_
    refine z_aload_n (pc := 43) hX 1 dX1_removeLast_43 rfl rfl ?_
    refine z_get (pc := 44) (c := o) (j := 0) (v := .ref (ad (o + 1))) hX rfl zfl_RX1_9 (zCat_lt ho) (zCat_e ho) rfl dX1_removeLast_44 ?_
    refine z_aload_n (pc := 47) hX 1 dX1_removeLast_47 rfl rfl ?_
    refine z_get (pc := 48) (c := o) (j := 9) (v := .int (zI (m1 o 9))) hX rfl zfl_RX1_45 (zCat_lt ho) (zCat_e ho) rfl dX1_removeLast_48 ?_
    obtain ⟨x5, hx5, hi5, h⟩ := zrd_s h
    refine z_iald (pc := 51) (c := (o + 1)) hX (zCat_a1 ho) hi5 hx5 dX1_removeLast_51 ?_
    obtain ⟨r6, hr6, h⟩ := zcl_s h
    refine z_callSr (pc := 52) hX [.int (zI x4), .int (zI x5)] [.ref (ad (o + 9))] (wX1_edge (ca := ca) hG  hr6) zms_RX1_53 rfl rfl ⟨rfl, rfl⟩ ⟨by decide, by decide⟩ (Nat.le_of_ble_eq_true rfl) dX1_removeLast_52 ?_
    refine z_iconst (pc := 55) hX dX1_removeLast_55 ?_
    obtain ⟨m7, hm7, hi7, h⟩ := zwr_s h
    refine z_iast (pc := 56) (c := (o + 9)) hX (zCat_a9 ho) hi7 hm7 dX1_removeLast_56 ?_
    refine z_aload_n (pc := 57) hX 1 dX1_removeLast_57 rfl rfl ?_
    refine z_dup (pc := 58) hX dX1_removeLast_58 rfl ?_
    refine z_get (pc := 59) (c := o) (j := 10) (v := .int (zI (m7 o 10))) hX rfl zfl_RX1_59 (zCat_lt ho) (zCat_e ho) rfl dX1_removeLast_59 ?_
    refine z_iconst (pc := 62) hX dX1_removeLast_62 ?_
    refine z_isub (pc := 63) hX dX1_removeLast_63 ?_
    obtain ⟨m8, hm8, h⟩ := zpf_s h
    refine z_put (pc := 64) (c := o) (j := 10) hX rfl zfl_RX1_59 zfi_1_10 (zCat_lt ho) (zCat_e ho) (Nat.le_of_ble_eq_true rfl) (zCat_p10 ho) hm8 dX1_removeLast_64 ?_
    exact z_vret (pc := 67) hX rfl rfl (Option.some.inj h) dX1_removeLast_67
def rmX1_longestBehind : Room := { frames := 0, cells := 0, slots := 0, locals := 0 }
set_option maxRecDepth 20000 in
set_option maxHeartbeats 4000000 in
theorem wX1_longestBehind_L5 {X : zXT} {l : Launch} {D : va_G} {ca : Nat → ClassId} {ad : Nat → Nat} (hG : zGok (zGC D ca ad)) {o : Nat} (ho : zCat o) {a1 : Int} {a2 : Int}  {r0 : Int} {m : zM}  (hX : zC X l rmX1_longestBehind (zGC D ca ad) (some (.int (zI r0))) m cX1_longestBehind 6 RX1 (some .int)) {k : Int → Int → Option (Int)} (hk : ∀ (v3 : Int) (v4 : Int), k v3 v4 = some r0 → zV X 6 m 58 [(0, .ref (ad o)), (2, .int (zI a2)), (3, .int (zI v3)), (4, .int (zI v4))] []) : ∀ (n : Nat) (v3 : Int) (v4 : Int), FX1_longestBehind_L5 o a1 a2 m k n v3 v4 = some r0 → zV X 6 m 5 [(0, .ref (ad o)), (2, .int (zI a2)), (3, .int (zI v3)), (4, .int (zI v4))] [] := by
  intro n
  induction n with
  | zero => intro v3 v4 h; cases h
  | succ n ih =>
    intro v3 v4 h
    replace h : FX1_longestBehind_L5_B o a1 a2 m k (FX1_longestBehind_L5 o a1 a2 m k n) v3 v4 = some r0 := h
    unfold FX1_longestBehind_L5_B at h
    refine z_iload (pc := 5) hX 3 dX1_longestBehind_5 rfl ?_
    refine z_bipush (pc := 7) hX dX1_longestBehind_7 (by decide +kernel) ?_
    refine z_icmp_ge (pc := 9) (tgt := 58) hX dX1_longestBehind_9 (by decide) (fun hc7 => ?_) (fun hc7 => ?_)
    · replace h := (if_neg hc7).symm.trans h
      exact hk _ _ h
    · replace h := (if_pos hc7).symm.trans h
      refine z_aload_n (pc := 12) hX 0 dX1_longestBehind_12 rfl rfl ?_
      refine z_get (pc := 13) (c := o) (j := 9) (v := .int (zI (m o 9))) hX rfl zfl_RX1_45 (zCat_lt ho) (zCat_e ho) rfl dX1_longestBehind_13 ?_
      refine z_iconst (pc := 16) hX dX1_longestBehind_16 ?_
      refine z_isub (pc := 17) hX dX1_longestBehind_17 ?_
      refine z_aload_n (pc := 18) hX 0 dX1_longestBehind_18 rfl rfl ?_
      refine z_get (pc := 19) (c := o) (j := 2) (v := .ref (ad (o + 3))) hX rfl zfl_RX1_18 (zCat_lt ho) (zCat_e ho) rfl dX1_longestBehind_19 ?_
      refine z_iload_n (pc := 22) hX 2 dX1_longestBehind_22 rfl rfl ?_
      obtain ⟨x1, hx1, hi1, h⟩ := zrd_s h
      refine z_iald (pc := 23) (c := (o + 3)) hX (zCat_a3 ho) hi1 hx1 dX1_longestBehind_23 ?_
      refine z_isub (pc := 24) hX dX1_longestBehind_24 ?_
      refine z_istore (pc := 25) (lv' := [(5, .int (zI (((m o 9) - 1) - x1))), (0, .ref (ad o)), (2, .int (zI a2)), (3, .int (zI v3)), (4, .int (zI v4))]) hX dX1_longestBehind_25 (by decide) rfl ?_
      refine z_iload (pc := 27) hX 0 dX1_longestBehind_27 rfl ?_
      refine z_if_lt (pc := 29) (tgt := 45) hX dX1_longestBehind_29 (by decide) (fun hc6 => ?_) (fun hc6 => ?_)
      · replace h := (if_pos hc6).symm.trans h
        refine z_aload_n (pc := 45) hX 1 dX1_longestBehind_45 rfl rfl ?_
        refine z_get (pc := 46) (c := o) (j := 3) (v := .ref (ad (o + 4))) hX rfl zfl_RX1_21 (zCat_lt ho) (zCat_e ho) rfl dX1_longestBehind_46 ?_
        refine z_iload_n (pc := 49) hX 3 dX1_longestBehind_49 rfl rfl ?_
        obtain ⟨x2, hx2, hi2, h⟩ := zrd_s h
        refine z_iald (pc := 50) (c := (o + 4)) hX (zCat_a4 ho) hi2 hx2 dX1_longestBehind_50 ?_
        refine z_istore_n (pc := 51) (lv' := [(3, .int (zI x2)), (5, .int (zI (((m o 9) - 1) - x1))), (0, .ref (ad o)), (2, .int (zI a2)), (4, .int (zI v4))]) hX dX1_longestBehind_51 rfl (by decide) rfl ?_
        refine z_iinc (pc := 52) (lv' := [(4, .int (zI (v4 + 1))), (3, .int (zI x2)), (5, .int (zI (((m o 9) - 1) - x1))), (0, .ref (ad o)), (2, .int (zI a2))]) hX 4 dX1_longestBehind_52 rfl (by decide) rfl ?_
        refine z_goto (pc := 55) (tgt := 5) hX dX1_longestBehind_55 (by decide) ?_
        refine z_sub [3, 4, 1, 0] rfl ?_
        exact ih _ _ h
      · replace h := (if_neg hc6).symm.trans h
        refine z_aload_n (pc := 32) hX 1 dX1_longestBehind_32 rfl rfl ?_
        refine z_get (pc := 33) (c := o) (j := 0) (v := .ref (ad (o + 1))) hX rfl zfl_RX1_9 (zCat_lt ho) (zCat_e ho) rfl dX1_longestBehind_33 ?_
        refine z_iload (pc := 36) hX 0 dX1_longestBehind_36 rfl ?_
        obtain ⟨x3, hx3, hi3, h⟩ := zrd_s h
        refine z_iald (pc := 38) (c := (o + 1)) hX (zCat_a1 ho) hi3 hx3 dX1_longestBehind_38 ?_
        refine z_iload_n (pc := 39) hX 2 dX1_longestBehind_39 rfl rfl ?_
        refine z_icmp_ne (pc := 40) (tgt := 45) hX dX1_longestBehind_40 (by decide) (fun hc5 => ?_) (fun hc5 => ?_)
        · replace h := (if_neg hc5).symm.trans h
          refine z_aload_n (pc := 45) hX 1 dX1_longestBehind_45 rfl rfl ?_
          refine z_get (pc := 46) (c := o) (j := 3) (v := .ref (ad (o + 4))) hX rfl zfl_RX1_21 (zCat_lt ho) (zCat_e ho) rfl dX1_longestBehind_46 ?_
          refine z_iload_n (pc := 49) hX 3 dX1_longestBehind_49 rfl rfl ?_
          obtain ⟨x4, hx4, hi4, h⟩ := zrd_s h
          refine z_iald (pc := 50) (c := (o + 4)) hX (zCat_a4 ho) hi4 hx4 dX1_longestBehind_50 ?_
          refine z_istore_n (pc := 51) (lv' := [(3, .int (zI x4)), (5, .int (zI (((m o 9) - 1) - x1))), (0, .ref (ad o)), (2, .int (zI a2)), (4, .int (zI v4))]) hX dX1_longestBehind_51 rfl (by decide) rfl ?_
          refine z_iinc (pc := 52) (lv' := [(4, .int (zI (v4 + 1))), (3, .int (zI x4)), (5, .int (zI (((m o 9) - 1) - x1))), (0, .ref (ad o)), (2, .int (zI a2))]) hX 4 dX1_longestBehind_52 rfl (by decide) rfl ?_
          refine z_goto (pc := 55) (tgt := 5) hX dX1_longestBehind_55 (by decide) ?_
          refine z_sub [3, 4, 1, 0] rfl ?_
          exact ih _ _ h
        · replace h := (if_pos hc5).symm.trans h
          refine z_iload_n (pc := 43) hX 3 dX1_longestBehind_43 rfl rfl ?_
          exact z_iret (pc := 44) hX rfl rfl (Option.some.inj h) rfl dX1_longestBehind_44
set_option maxRecDepth 20000 in
set_option maxHeartbeats 4000000 in
theorem wX1_longestBehind {l : Launch} {D : va_G} {ca : Nat → ClassId} {ad : Nat → Nat} (hG : zGok (zGC D ca ad)) {o : Nat} (ho : zCat o) {a1 : Int} {a2 : Int} {r0 : Int} {m : zM} (h : FX1_longestBehind o a1 a2 m = some r0) : zCt l (zGC D ca ad) yX1_longestBehind cX1_longestBehind 6 (some .int) rmX1_longestBehind [.ref (ad o), .int (zI a1), .int (zI a2)] m (some (.int (zI r0))) m := by
  unfold FX1_longestBehind at h
  refine z_of (by decide +kernel) hG (Nat.le_of_ble_eq_true rfl) (fun X hX => ?_)
  show zV X 6 m 0 [(0, .ref (ad o)), (1, .int (zI a1)), (2, .int (zI a2))] []
  refine z_iload_n (pc := 0) hX 1 dX1_longestBehind_0 rfl rfl ?_
  refine z_istore_n (pc := 1) (lv' := [(3, .int (zI a1)), (0, .ref (ad o)), (1, .int (zI a1)), (2, .int (zI a2))]) hX dX1_longestBehind_1 rfl (by decide) rfl ?_
  refine z_iconst (pc := 2) hX dX1_longestBehind_2 ?_
  refine z_istore (pc := 3) (lv' := [(4, .int (zI 0)), (3, .int (zI a1)), (0, .ref (ad o)), (1, .int (zI a1)), (2, .int (zI a2))]) hX dX1_longestBehind_3 (by decide) rfl ?_
  refine z_sub [2, 4, 1, 0] rfl ?_
  refine wX1_longestBehind_L5 hG ho hX (fun y5_3 y5_4 h => ?_) _ _ _ h
  refine z_bipush (pc := 58) hX dX1_longestBehind_58 (by decide +kernel) ?_
  exact z_iret (pc := 60) hX rfl rfl (Option.some.inj h) rfl dX1_longestBehind_60
def rmX1_less : Room := { frames := 0, cells := 0, slots := 0, locals := 0 }
set_option maxRecDepth 20000 in
set_option maxHeartbeats 4000000 in
theorem wX1_less {l : Launch} {D : va_G} {ca : Nat → ClassId} {ad : Nat → Nat} (hG : zGok (zGC D ca ad)) {o : Nat} (ho : zCat o) {a1 : Int} {r0 : Int} {m : zM} (h : FX1_less o a1 m = some r0) : zCt l (zGC D ca ad) yX1_less cX1_less 2 (some .int) rmX1_less [.ref (ad o), .int (zI a1)] m (some (.int (zI r0))) m := by
  unfold FX1_less at h
  refine z_of (by decide +kernel) hG (Nat.le_of_ble_eq_true rfl) (fun X hX => ?_)
  show zV X 2 m 0 [(0, .ref (ad o)), (1, .int (zI a1))] []
  refine z_aload_n (pc := 0) hX 0 dX1_less_0 rfl rfl ?_
  refine z_get (pc := 1) (c := o) (j := 2) (v := .ref (ad (o + 3))) hX rfl zfl_RX1_18 (zCat_lt ho) (zCat_e ho) rfl dX1_less_1 ?_
  refine z_iload_n (pc := 4) hX 1 dX1_less_4 rfl rfl ?_
  obtain ⟨x1, hx1, hi1, h⟩ := zrd_s h
  refine z_iald (pc := 5) (c := (o + 3)) hX (zCat_a3 ho) hi1 hx1 dX1_less_5 ?_
  refine z_aload_n (pc := 6) hX 0 dX1_less_6 rfl rfl ?_
  refine z_get (pc := 7) (c := o) (j := 2) (v := .ref (ad (o + 3))) hX rfl zfl_RX1_18 (zCat_lt ho) (zCat_e ho) rfl dX1_less_7 ?_
  refine z_aload_n (pc := 10) hX 0 dX1_less_10 rfl rfl ?_
  refine z_get (pc := 11) (c := o) (j := 3) (v := .ref (ad (o + 4))) hX rfl zfl_RX1_21 (zCat_lt ho) (zCat_e ho) rfl dX1_less_11 ?_
  refine z_iload_n (pc := 14) hX 1 dX1_less_14 rfl rfl ?_
  obtain ⟨x2, hx2, hi2, h⟩ := zrd_s h
  refine z_iald (pc := 15) (c := (o + 4)) hX (zCat_a4 ho) hi2 hx2 dX1_less_15 ?_
  obtain ⟨x3, hx3, hi3, h⟩ := zrd_s h
  refine z_iald (pc := 16) (c := (o + 3)) hX (zCat_a3 ho) hi3 hx3 dX1_less_16 ?_
  refine z_isub (pc := 17) hX dX1_less_17 ?_
  exact z_iret (pc := 18) hX rfl rfl (Option.some.inj h) rfl dX1_less_18
def rmX1_create : Room := { frames := 1, cells := 0, slots := 0, locals := 25 }
set_option maxRecDepth 20000 in
set_option maxHeartbeats 4000000 in
theorem wX1_create {l : Launch} {D : va_G} {ca : Nat → ClassId} {ad : Nat → Nat} (hG : zGok (zGC D ca ad)) {o : Nat} (ho : zCat o) {a1 : Int} {a2 : Int} {r0 : Int} {m0 : zM} {m : zM} (h : FX1_create o a1 a2 m = some (r0, m0)) : zCt l (zGC D ca ad) yX1_create cX1_create 5 (some .int) rmX1_create [.ref (ad o), .int (zI a1), .int (zI a2)] m (some (.int (zI r0))) m0 := by
  unfold FX1_create at h
  refine z_of (by decide +kernel) hG (Nat.le_of_ble_eq_true rfl) (fun X hX => ?_)
  show zV X 5 m 0 [(0, .ref (ad o)), (1, .int (zI a1)), (2, .int (zI a2))] []
  refine z_aload_n (pc := 0) hX 0 dX1_create_0 rfl rfl ?_
  refine z_get (pc := 1) (c := o) (j := 10) (v := .int (zI (m o 10))) hX rfl zfl_RX1_59 (zCat_lt ho) (zCat_e ho) rfl dX1_create_1 ?_
  refine z_istore_n (pc := 4) (lv' := [(3, .int (zI (m o 10))), (0, .ref (ad o)), (1, .int (zI a1)), (2, .int (zI a2))]) hX dX1_create_4 rfl (by decide) rfl ?_
  refine z_aload_n (pc := 5) hX 1 dX1_create_5 rfl rfl ?_
  refine z_get (pc := 6) (c := o) (j := 2) (v := .ref (ad (o + 3))) hX rfl zfl_RX1_18 (zCat_lt ho) (zCat_e ho) rfl dX1_create_6 ?_
  refine z_iload_n (pc := 9) hX 0 dX1_create_9 rfl rfl ?_
  refine z_aload_n (pc := 10) hX 1 dX1_create_10 rfl rfl ?_
  refine z_get (pc := 11) (c := o) (j := 2) (v := .ref (ad (o + 3))) hX rfl zfl_RX1_18 (zCat_lt ho) (zCat_e ho) rfl dX1_create_11 ?_
  refine z_iload_n (pc := 14) hX 2 dX1_create_14 rfl rfl ?_
  obtain ⟨x1, hx1, hi1, h⟩ := zrd_s h
  refine z_iald (pc := 15) (c := (o + 3)) hX (zCat_a3 ho) hi1 hx1 dX1_create_15 ?_
  refine z_iconst (pc := 16) hX dX1_create_16 ?_
  refine z_iadd (pc := 17) hX dX1_create_17 ?_
  obtain ⟨m2, hm2, hi2, h⟩ := zwr_s h
  refine z_iast (pc := 18) (c := (o + 3)) hX (zCat_a3 ho) hi2 hm2 dX1_create_18 ?_
  refine z_aload_n (pc := 19) hX 1 dX1_create_19 rfl rfl ?_
  refine z_get (pc := 20) (c := o) (j := 5) (v := .ref (ad (o + 6))) hX rfl zfl_RX1_27 (zCat_lt ho) (zCat_e ho) rfl dX1_create_20 ?_
  refine z_iload_n (pc := 23) hX 0 dX1_create_23 rfl rfl ?_
  refine z_iload_n (pc := 24) hX 2 dX1_create_24 rfl rfl ?_
  obtain ⟨m3, hm3, hi3, h⟩ := zwr_s h
  refine z_iast (pc := 25) (c := (o + 6)) hX (zCat_a6 ho) hi3 hm3 dX1_create_25 ?_
  refine z_aload_n (pc := 26) hX 1 dX1_create_26 rfl rfl ?_
  refine z_get (pc := 27) (c := o) (j := 6) (v := .ref (ad (o + 7))) hX rfl zfl_RX1_30 (zCat_lt ho) (zCat_e ho) rfl dX1_create_27 ?_
  refine z_iload_n (pc := 30) hX 0 dX1_create_30 rfl rfl ?_
  refine z_aload_n (pc := 31) hX 1 dX1_create_31 rfl rfl ?_
  refine z_get (pc := 32) (c := o) (j := 9) (v := .int (zI (m3 o 9))) hX rfl zfl_RX1_45 (zCat_lt ho) (zCat_e ho) rfl dX1_create_32 ?_
  obtain ⟨m4, hm4, hi4, h⟩ := zwr_s h
  refine z_iast (pc := 35) (c := (o + 7)) hX (zCat_a7 ho) hi4 hm4 dX1_create_35 ?_
  refine z_iload_n (pc := 36) hX 2 dX1_create_36 rfl rfl ?_
  refine z_bipush (pc := 37) hX dX1_create_37 (by decide +kernel) ?_
  obtain ⟨j67, hj67, h⟩ := zjn_s h (fun (j : Int → Option (Int × zM)) => ∀ (s0 : Int), j s0 = some (r0, m0) → zV X 5 m4 67 [(0, .ref (ad o)), (1, .int (zI a1)), (2, .int (zI a2)), (3, .int (zI (m o 10)))] [.int (zI s0)]) (fun s0 h => by
      refine z_istore (pc := 67) (lv' := [(4, .int (zI s0)), (0, .ref (ad o)), (1, .int (zI a1)), (2, .int (zI a2)), (3, .int (zI (m o 10)))]) hX dX1_create_67 (by decide) rfl ?_
      refine z_aload_n (pc := 69) hX 1 dX1_create_69 rfl rfl ?_
      refine z_get (pc := 70) (c := o) (j := 3) (v := .ref (ad (o + 4))) hX rfl zfl_RX1_21 (zCat_lt ho) (zCat_e ho) rfl dX1_create_70 ?_
      refine z_iload_n (pc := 73) hX 4 dX1_create_73 rfl rfl ?_
      refine z_iload (pc := 74) hX 0 dX1_create_74 rfl ?_
      obtain ⟨m5, hm5, hi5, h⟩ := zwr_s h
      refine z_iast (pc := 76) (c := (o + 4)) hX (zCat_a4 ho) hi5 hm5 dX1_create_76 ?_
      refine z_aload_n (pc := 77) hX 1 dX1_create_77 rfl rfl ?_
      refine z_get (pc := 78) (c := o) (j := 7) (v := .ref (ad (o + 8))) hX rfl zfl_RX1_33 (zCat_lt ho) (zCat_e ho) rfl dX1_create_78 ?_
      refine z_iload_n (pc := 81) hX 4 dX1_create_81 rfl rfl ?_
      refine z_aload_n (pc := 82) hX 1 dX1_create_82 rfl rfl ?_
      refine z_get (pc := 83) (c := o) (j := 7) (v := .ref (ad (o + 8))) hX rfl zfl_RX1_33 (zCat_lt ho) (zCat_e ho) rfl dX1_create_83 ?_
      refine z_iload (pc := 86) hX 0 dX1_create_86 rfl ?_
      obtain ⟨x6, hx6, hi6, h⟩ := zrd_s h
      refine z_iald (pc := 88) (c := (o + 8)) hX (zCat_a8 ho) hi6 hx6 dX1_create_88 ?_
      refine z_iconst (pc := 89) hX dX1_create_89 ?_
      refine z_iadd (pc := 90) hX dX1_create_90 ?_
      obtain ⟨m7, hm7, hi7, h⟩ := zwr_s h
      refine z_iast (pc := 91) (c := (o + 8)) hX (zCat_a8 ho) hi7 hm7 dX1_create_91 ?_
      refine z_aload_n (pc := 92) hX 1 dX1_create_92 rfl rfl ?_
      refine z_get (pc := 93) (c := o) (j := 4) (v := .ref (ad (o + 5))) hX rfl zfl_RX1_24 (zCat_lt ho) (zCat_e ho) rfl dX1_create_93 ?_
      refine z_iload_n (pc := 96) hX 4 dX1_create_96 rfl rfl ?_
      refine z_aload_n (pc := 97) hX 1 dX1_create_97 rfl rfl ?_
      refine z_iload_n (pc := 98) hX 4 dX1_create_98 rfl rfl ?_
      obtain ⟨r8, hr8, h⟩ := zcl_s h
      refine z_callVr (pc := 99) (c := o) hX [.int (zI (m o 10))] [.int (zI (m o 10)), .ref (ad (o + 5))] (wX1_less (ca := ca) hG ho hr8) rfl zmv_RX1_62 (zCat_lt ho) (zCat_e ho) rfl rfl ⟨rfl, rfl⟩ ⟨by decide, by decide⟩ (Nat.le_of_ble_eq_true rfl) dX1_create_99 ?_
      refine z_aload_n (pc := 102) hX 1 dX1_create_102 rfl rfl ?_
      refine z_iload (pc := 103) hX 0 dX1_create_103 rfl ?_
      obtain ⟨r9, hr9, h⟩ := zcl_s h
      refine z_callVr (pc := 105) (c := o) hX [.int (zI s0)] [.int (zI r8), .int (zI (m o 10)), .ref (ad (o + 5))] (wX1_less (ca := ca) hG ho hr9) rfl zmv_RX1_62 (zCat_lt ho) (zCat_e ho) rfl rfl ⟨rfl, rfl⟩ ⟨by decide, by decide⟩ (Nat.le_of_ble_eq_true rfl) dX1_create_105 ?_
      obtain ⟨j123, hj123, h⟩ := zjn_s h (fun (j : Int → Option (Int × zM)) => ∀ (s0 : Int), j s0 = some (r0, m0) → zV X 5 m7 123 [(0, .ref (ad o)), (1, .int (zI a1)), (2, .int (zI a2)), (3, .int (zI (m o 10)))] [.int (zI s0), .int (zI (m o 10)), .ref (ad (o + 5))]) (fun s0 h => by
          obtain ⟨m10, hm10, hi10, h⟩ := zwr_s h
          refine z_iast (pc := 123) (c := (o + 5)) hX (zCat_a5 ho) hi10 hm10 dX1_create_123 ?_
          refine z_aload_n (pc := 124) hX 0 dX1_create_124 rfl rfl ?_
          refine z_get (pc := 125) (c := o) (j := 8) (v := .ref (ad (o + 9))) hX rfl zfl_RX1_36 (zCat_lt ho) (zCat_e ho) rfl dX1_create_125 ?_
          refine z_iload_n (pc := 128) hX 1 dX1_create_128 rfl rfl ?_
          refine z_iload_n (pc := 129) hX 2 dX1_create_129 rfl rfl ?_
          obtain ⟨r11, hr11, h⟩ := zcl_s h
          refine z_callSr (pc := 130) hX [.int (zI a1), .int (zI a2)] [.ref (ad (o + 9))] (wX1_edge (ca := ca) hG  hr11) zms_RX1_53 rfl rfl ⟨rfl, rfl⟩ ⟨by decide, by decide⟩ (Nat.le_of_ble_eq_true rfl) dX1_create_130 ?_
          refine z_iload_n (pc := 133) hX 3 dX1_create_133 rfl rfl ?_
          obtain ⟨m12, hm12, hi12, h⟩ := zwr_s h
          refine z_iast (pc := 134) (c := (o + 9)) hX (zCat_a9 ho) hi12 hm12 dX1_create_134 ?_
          refine z_aload_n (pc := 135) hX 0 dX1_create_135 rfl rfl ?_
          refine z_dup (pc := 136) hX dX1_create_136 rfl ?_
          refine z_get (pc := 137) (c := o) (j := 10) (v := .int (zI (m12 o 10))) hX rfl zfl_RX1_59 (zCat_lt ho) (zCat_e ho) rfl dX1_create_137 ?_
          refine z_iconst (pc := 140) hX dX1_create_140 ?_
          refine z_iadd (pc := 141) hX dX1_create_141 ?_
          obtain ⟨m13, hm13, h⟩ := zpf_s h
          refine z_put (pc := 142) (c := o) (j := 10) hX rfl zfl_RX1_59 zfi_1_10 (zCat_lt ho) (zCat_e ho) (Nat.le_of_ble_eq_true rfl) (zCat_p10 ho) hm13 dX1_create_142 ?_
          refine z_iload_n (pc := 145) hX 3 dX1_create_145 rfl rfl ?_
          exact z_iret (pc := 146) hX rfl rfl (Prod.mk.inj (Option.some.inj h)).1 (Prod.mk.inj (Option.some.inj h)).2 dX1_create_146
          )
      refine z_icmp_ne (pc := 108) (tgt := 121) hX dX1_create_108 (by decide) (fun hc15 => ?_) (fun hc15 => ?_)
      · replace h := (if_neg hc15).symm.trans h
        refine z_iload (pc := 121) hX 0 dX1_create_121 rfl ?_
        refine z_sub [1, 2, 3, 4] rfl ?_
        exact hj123 _ h
      · replace h := (if_pos hc15).symm.trans h
        refine z_aload_n (pc := 111) hX 1 dX1_create_111 rfl rfl ?_
        refine z_get (pc := 112) (c := o) (j := 4) (v := .ref (ad (o + 5))) hX rfl zfl_RX1_24 (zCat_lt ho) (zCat_e ho) rfl dX1_create_112 ?_
        refine z_iload (pc := 115) hX 0 dX1_create_115 rfl ?_
        obtain ⟨x14, hx14, hi14, h⟩ := zrd_s h
        refine z_iald (pc := 117) (c := (o + 5)) hX (zCat_a5 ho) hi14 hx14 dX1_create_117 ?_
        refine z_goto (pc := 118) (tgt := 123) hX dX1_create_118 (by decide) ?_
        refine z_sub [1, 2, 3, 4] rfl ?_
        exact hj123 _ h
      )
  refine z_icmp_ne (pc := 39) (tgt := 47) hX dX1_create_39 (by decide) (fun hc20 => ?_) (fun hc20 => ?_)
  · replace h := (if_neg hc20).symm.trans h
    refine z_aload_n (pc := 47) hX 1 dX1_create_47 rfl rfl ?_
    refine z_get (pc := 48) (c := o) (j := 8) (v := .ref (ad (o + 9))) hX rfl zfl_RX1_36 (zCat_lt ho) (zCat_e ho) rfl dX1_create_48 ?_
    refine z_aload_n (pc := 51) hX 1 dX1_create_51 rfl rfl ?_
    refine z_aload_n (pc := 52) hX 1 dX1_create_52 rfl rfl ?_
    refine z_get (pc := 53) (c := o) (j := 3) (v := .ref (ad (o + 4))) hX rfl zfl_RX1_21 (zCat_lt ho) (zCat_e ho) rfl dX1_create_53 ?_
    refine z_iload_n (pc := 56) hX 2 dX1_create_56 rfl rfl ?_
    obtain ⟨x16, hx16, hi16, h⟩ := zrd_s h
    refine z_iald (pc := 57) (c := (o + 4)) hX (zCat_a4 ho) hi16 hx16 dX1_create_57 ?_
    refine z_iload_n (pc := 58) hX 3 dX1_create_58 rfl rfl ?_
    obtain ⟨r17, hr17, h⟩ := zcl_s h
    refine z_callVr (pc := 59) (c := o) hX [.int (zI x16), .int (zI a2)] [.ref (ad (o + 9))] (wX1_longestBehind (ca := ca) hG ho hr17) rfl zmv_RX1_49 (zCat_lt ho) (zCat_e ho) rfl rfl ⟨rfl, rfl⟩ ⟨by decide, by decide⟩ (Nat.le_of_ble_eq_true rfl) dX1_create_59 ?_
    refine z_iload_n (pc := 62) hX 3 dX1_create_62 rfl rfl ?_
    obtain ⟨r18, hr18, h⟩ := zcl_s h
    refine z_callSr (pc := 63) hX [.int (zI r17), .int (zI a2)] [.ref (ad (o + 9))] (wX1_edge (ca := ca) hG  hr18) zms_RX1_53 rfl rfl ⟨rfl, rfl⟩ ⟨by decide, by decide⟩ (Nat.le_of_ble_eq_true rfl) dX1_create_63 ?_
    obtain ⟨x19, hx19, hi19, h⟩ := zrd_s h
    refine z_iald (pc := 66) (c := (o + 9)) hX (zCat_a9 ho) hi19 hx19 dX1_create_66 ?_
    refine z_sub [1, 2, 3, 0] rfl ?_
    exact hj67 _ h
  · replace h := (if_pos hc20).symm.trans h
    refine z_bipush (pc := 42) hX dX1_create_42 (by decide +kernel) ?_
    refine z_goto (pc := 44) (tgt := 67) hX dX1_create_44 (by decide) ?_
    refine z_sub [1, 2, 3, 0] rfl ?_
    exact hj67 _ h
def rmX1_add : Room := { frames := 2, cells := 0, slots := 0, locals := 49 }
set_option maxRecDepth 20000 in
set_option maxHeartbeats 4000000 in
theorem wX1_add {l : Launch} {D : va_G} {ca : Nat → ClassId} {ad : Nat → Nat} (hG : zGok (zGC D ca ad)) {o : Nat} (ho : zCat o) {a1 : Int} {r0 : Int} {m0 : zM} {m : zM} (h : FX1_add o a1 m = some (r0, m0)) : zCt l (zGC D ca ad) yX1_add cX1_add 4 (some .int) rmX1_add [.ref (ad o), .int (zI a1)] m (some (.int (zI r0))) m0 := by
  unfold FX1_add at h
  refine z_of (by decide +kernel) hG (Nat.le_of_ble_eq_true rfl) (fun X hX => ?_)
  show zV X 4 m 0 [(0, .ref (ad o)), (1, .int (zI a1))] []
  refine z_aload_n (pc := 0) hX 0 dX1_add_0 rfl rfl ?_
  refine z_get (pc := 1) (c := o) (j := 0) (v := .ref (ad (o + 1))) hX rfl zfl_RX1_9 (zCat_lt ho) (zCat_e ho) rfl dX1_add_1 ?_
  refine z_aload_n (pc := 4) hX 0 dX1_add_4 rfl rfl ?_
  refine z_get (pc := 5) (c := o) (j := 9) (v := .int (zI (m o 9))) hX rfl zfl_RX1_45 (zCat_lt ho) (zCat_e ho) rfl dX1_add_5 ?_
  refine z_iload_n (pc := 8) hX 1 dX1_add_8 rfl rfl ?_
  obtain ⟨m1, hm1, hi1, h⟩ := zwr_s h
  refine z_iast (pc := 9) (c := (o + 1)) hX (zCat_a1 ho) hi1 hm1 dX1_add_9 ?_
  refine z_aload_n (pc := 10) hX 0 dX1_add_10 rfl rfl ?_
  refine z_aload_n (pc := 11) hX 0 dX1_add_11 rfl rfl ?_
  refine z_get (pc := 12) (c := o) (j := 9) (v := .int (zI (m1 o 9))) hX rfl zfl_RX1_45 (zCat_lt ho) (zCat_e ho) rfl dX1_add_12 ?_
  obtain ⟨j34, hj34, h⟩ := zjn_s h (fun (j : Int → Option (Int × zM)) => ∀ (s0 : Int), j s0 = some (r0, m0) → zV X 4 m1 34 [(0, .ref (ad o)), (1, .int (zI a1))] [.int (zI s0), .ref (ad o)]) (fun s0 h => by
      refine z_iload_n (pc := 34) hX 1 dX1_add_34 rfl rfl ?_
      obtain ⟨r2, hr2, h⟩ := zcl_s h
      refine z_callVr (pc := 35) (c := o) hX [.int (zI s0), .int (zI a1)] [] (wX1_longestBehind (ca := ca) hG ho hr2) rfl zmv_RX1_49 (zCat_lt ho) (zCat_e ho) rfl rfl ⟨rfl, rfl⟩ ⟨by decide, by decide⟩ (Nat.le_of_ble_eq_true rfl) dX1_add_35 ?_
      refine z_istore_n (pc := 38) (lv' := [(2, .int (zI r2)), (0, .ref (ad o)), (1, .int (zI a1))]) hX dX1_add_38 rfl (by decide) rfl ?_
      refine z_aload_n (pc := 39) hX 1 dX1_add_39 rfl rfl ?_
      refine z_get (pc := 40) (c := o) (j := 8) (v := .ref (ad (o + 9))) hX rfl zfl_RX1_36 (zCat_lt ho) (zCat_e ho) rfl dX1_add_40 ?_
      refine z_iload_n (pc := 43) hX 0 dX1_add_43 rfl rfl ?_
      refine z_iload_n (pc := 44) hX 2 dX1_add_44 rfl rfl ?_
      obtain ⟨r3, hr3, h⟩ := zcl_s h
      refine z_callSr (pc := 45) hX [.int (zI r2), .int (zI a1)] [.ref (ad (o + 9))] (wX1_edge (ca := ca) hG  hr3) zms_RX1_53 rfl rfl ⟨rfl, rfl⟩ ⟨by decide, by decide⟩ (Nat.le_of_ble_eq_true rfl) dX1_add_45 ?_
      obtain ⟨x4, hx4, hi4, h⟩ := zrd_s h
      refine z_iald (pc := 48) (c := (o + 9)) hX (zCat_a9 ho) hi4 hx4 dX1_add_48 ?_
      refine z_istore_n (pc := 49) (lv' := [(3, .int (zI x4)), (2, .int (zI r2)), (0, .ref (ad o)), (1, .int (zI a1))]) hX dX1_add_49 rfl (by decide) rfl ?_
      refine z_iload_n (pc := 50) hX 0 dX1_add_50 rfl rfl ?_
      refine z_iconst (pc := 51) hX dX1_add_51 ?_
      obtain ⟨j62, hj62, h⟩ := zjn_s h (fun (j : Int → zM → Option (Int × zM)) => ∀ (u3 : Int) (m_ : zM), j u3 m_ = some (r0, m0) → zV X 4 m_ 62 [(0, .ref (ad o)), (3, .int (zI u3))] []) (fun u3 m_ h => by
          refine z_aload_n (pc := 62) hX 0 dX1_add_62 rfl rfl ?_
          refine z_get (pc := 63) (c := o) (j := 1) (v := .ref (ad (o + 2))) hX rfl zfl_RX1_15 (zCat_lt ho) (zCat_e ho) rfl dX1_add_63 ?_
          refine z_aload_n (pc := 66) hX 0 dX1_add_66 rfl rfl ?_
          refine z_get (pc := 67) (c := o) (j := 9) (v := .int (zI (m_ o 9))) hX rfl zfl_RX1_45 (zCat_lt ho) (zCat_e ho) rfl dX1_add_67 ?_
          refine z_iload_n (pc := 70) hX 1 dX1_add_70 rfl rfl ?_
          obtain ⟨m5, hm5, hi5, h⟩ := zwr_s h
          refine z_iast (pc := 71) (c := (o + 2)) hX (zCat_a2 ho) hi5 hm5 dX1_add_71 ?_
          refine z_aload_n (pc := 72) hX 0 dX1_add_72 rfl rfl ?_
          refine z_dup (pc := 73) hX dX1_add_73 rfl ?_
          refine z_get (pc := 74) (c := o) (j := 9) (v := .int (zI (m5 o 9))) hX rfl zfl_RX1_45 (zCat_lt ho) (zCat_e ho) rfl dX1_add_74 ?_
          refine z_iconst (pc := 77) hX dX1_add_77 ?_
          refine z_iadd (pc := 78) hX dX1_add_78 ?_
          obtain ⟨m6, hm6, h⟩ := zpf_s h
          refine z_put (pc := 79) (c := o) (j := 9) hX rfl zfl_RX1_45 zfi_1_9 (zCat_lt ho) (zCat_e ho) (Nat.le_of_ble_eq_true rfl) (zCat_p9 ho) hm6 dX1_add_79 ?_
          refine z_aload_n (pc := 82) hX 0 dX1_add_82 rfl rfl ?_
          refine z_get (pc := 83) (c := o) (j := 2) (v := .ref (ad (o + 3))) hX rfl zfl_RX1_18 (zCat_lt ho) (zCat_e ho) rfl dX1_add_83 ?_
          refine z_iload_n (pc := 86) hX 1 dX1_add_86 rfl rfl ?_
          obtain ⟨x7, hx7, hi7, h⟩ := zrd_s h
          refine z_iald (pc := 87) (c := (o + 3)) hX (zCat_a3 ho) hi7 hx7 dX1_add_87 ?_
          exact z_iret (pc := 88) hX rfl rfl (Prod.mk.inj (Option.some.inj h)).1 (Prod.mk.inj (Option.some.inj h)).2 dX1_add_88
          )
      refine z_icmp_ne (pc := 52) (tgt := 62) hX dX1_add_52 (by decide) (fun hc9 => ?_) (fun hc9 => ?_)
      · replace h := (if_neg hc9).symm.trans h
        refine z_sub [2, 0] rfl ?_
        exact hj62 _ _ h
      · replace h := (if_pos hc9).symm.trans h
        refine z_aload_n (pc := 55) hX 2 dX1_add_55 rfl rfl ?_
        refine z_iload_n (pc := 56) hX 1 dX1_add_56 rfl rfl ?_
        refine z_iload_n (pc := 57) hX 3 dX1_add_57 rfl rfl ?_
        obtain ⟨r8, m8, hr8, h⟩ := zcl2_s h
        refine z_callVr (pc := 58) (c := o) hX [.int (zI r2), .int (zI a1)] [] (wX1_create (ca := ca) hG ho hr8) rfl zmv_RX1_56 (zCat_lt ho) (zCat_e ho) rfl rfl ⟨rfl, rfl⟩ ⟨by decide, by decide⟩ (Nat.le_of_ble_eq_true rfl) dX1_add_58 ?_
        refine z_istore_n (pc := 61) (lv' := [(3, .int (zI r8)), (2, .int (zI r2)), (0, .ref (ad o)), (1, .int (zI a1))]) hX dX1_add_61 rfl (by decide) rfl ?_
        refine z_sub [2, 0] rfl ?_
        exact hj62 _ _ h
      )
  refine z_if_ne (pc := 15) (tgt := 23) hX dX1_add_15 (by decide) (fun hc11 => ?_) (fun hc11 => ?_)
  · replace h := (if_neg hc11).symm.trans h
    refine z_aload_n (pc := 23) hX 0 dX1_add_23 rfl rfl ?_
    refine z_get (pc := 24) (c := o) (j := 1) (v := .ref (ad (o + 2))) hX rfl zfl_RX1_15 (zCat_lt ho) (zCat_e ho) rfl dX1_add_24 ?_
    refine z_aload_n (pc := 27) hX 0 dX1_add_27 rfl rfl ?_
    refine z_get (pc := 28) (c := o) (j := 9) (v := .int (zI (m1 o 9))) hX rfl zfl_RX1_45 (zCat_lt ho) (zCat_e ho) rfl dX1_add_28 ?_
    refine z_iconst (pc := 31) hX dX1_add_31 ?_
    refine z_isub (pc := 32) hX dX1_add_32 ?_
    obtain ⟨x10, hx10, hi10, h⟩ := zrd_s h
    refine z_iald (pc := 33) (c := (o + 2)) hX (zCat_a2 ho) hi10 hx10 dX1_add_33 ?_
    exact hj34 _ h
  · replace h := (if_pos hc11).symm.trans h
    refine z_bipush (pc := 18) hX dX1_add_18 (by decide +kernel) ?_
    refine z_goto (pc := 20) (tgt := 34) hX dX1_add_20 (by decide) ?_
    exact hj34 _ h
end
